section
-- ===== PART A: goes FIRST, ahead of the names: the tables' words, and 'selects' of the private methods out of them =====
/-- a private method of a class that the tables say can be made, by its rows of tables_1 -/
def lw_okq (q : MethodName × Nat) : Prop := (q.1.cls ≠ "java/lang/invoke/MethodHandle" ∧ q.1.cls ≠ "java/lang/invoke/VarHandle") ∧ Cond.instantiable q.1.cls q.2 ∈ tables_1 ∧ Cond.privateMethod q.1 ∈ tables_1 ∧ Cond.instanceMethod q.1 ∈ tables_1
theorem lw_p0 : lw_okq (⟨"JobBoard", "readySession", "(I)LJobBoard$Session;"⟩, 7) := ⟨⟨by decide +kernel, by decide +kernel⟩, List.mem_of_getElem? (i := 21) (by decide +kernel), List.mem_of_getElem? (i := 298) (by decide +kernel), List.mem_of_getElem? (i := 299) (by decide +kernel)⟩
theorem lw_p1 : lw_okq (⟨"JobBoard", "sessionAt", "(I)LJobBoard$Session;"⟩, 7) := ⟨⟨by decide +kernel, by decide +kernel⟩, List.mem_of_getElem? (i := 21) (by decide +kernel), List.mem_of_getElem? (i := 302) (by decide +kernel), List.mem_of_getElem? (i := 303) (by decide +kernel)⟩
theorem lw_p2 : lw_okq (⟨"java/lang/Throwable", "fillInStackTrace", "(I)Ljava/lang/Throwable;"⟩, 6) := ⟨⟨by decide +kernel, by decide +kernel⟩, List.mem_of_getElem? (i := 345) (by decide +kernel), List.mem_of_getElem? (i := 343) (by decide +kernel), List.mem_of_getElem? (i := 344) (by decide +kernel)⟩
theorem lw_p3 : lw_okq (⟨"JobBoard", "leaseEnd", "(I)I"⟩, 7) := ⟨⟨by decide +kernel, by decide +kernel⟩, List.mem_of_getElem? (i := 21) (by decide +kernel), List.mem_of_getElem? (i := 464) (by decide +kernel), List.mem_of_getElem? (i := 465) (by decide +kernel)⟩
theorem lw_p4 : lw_okq (⟨"JobBoard", "placeDraft", "(LJobBoard$Session;I)I"⟩, 7) := ⟨⟨by decide +kernel, by decide +kernel⟩, List.mem_of_getElem? (i := 21) (by decide +kernel), List.mem_of_getElem? (i := 468) (by decide +kernel), List.mem_of_getElem? (i := 469) (by decide +kernel)⟩
theorem lw_p5 : lw_okq (⟨"JobBoard$Board", "closeGaps", "()V"⟩, 3) := ⟨⟨by decide +kernel, by decide +kernel⟩, List.mem_of_getElem? (i := 139) (by decide +kernel), List.mem_of_getElem? (i := 476) (by decide +kernel), List.mem_of_getElem? (i := 477) (by decide +kernel)⟩
theorem lw_p6 : lw_okq (⟨"JobBoard", "report", "(LJobBoard$Tuple;)V"⟩, 7) := ⟨⟨by decide +kernel, by decide +kernel⟩, List.mem_of_getElem? (i := 21) (by decide +kernel), List.mem_of_getElem? (i := 504) (by decide +kernel), List.mem_of_getElem? (i := 505) (by decide +kernel)⟩
theorem lw_p7 : lw_okq (⟨"JobBoard", "fitsAlone", "(LJobBoard$Pattern;LJobBoard$Tuple;)Z"⟩, 7) := ⟨⟨by decide +kernel, by decide +kernel⟩, List.mem_of_getElem? (i := 21) (by decide +kernel), List.mem_of_getElem? (i := 508) (by decide +kernel), List.mem_of_getElem? (i := 509) (by decide +kernel)⟩
theorem lw_p8 : lw_okq (⟨"JobBoard$Pattern", "holds", "(IIJLJobBoard$Finding;)Z"⟩, 4) := ⟨⟨by decide +kernel, by decide +kernel⟩, List.mem_of_getElem? (i := 86) (by decide +kernel), List.mem_of_getElem? (i := 520) (by decide +kernel), List.mem_of_getElem? (i := 521) (by decide +kernel)⟩
theorem lw_p9 : lw_okq (⟨"JobBoard", "serveLine", "()V"⟩, 7) := ⟨⟨by decide +kernel, by decide +kernel⟩, List.mem_of_getElem? (i := 21) (by decide +kernel), List.mem_of_getElem? (i := 538) (by decide +kernel), List.mem_of_getElem? (i := 539) (by decide +kernel)⟩
theorem lw_p10 : lw_okq (⟨"JobBoard", "searchFor", "(LJobBoard$Session;I)Z"⟩, 7) := ⟨⟨by decide +kernel, by decide +kernel⟩, List.mem_of_getElem? (i := 21) (by decide +kernel), List.mem_of_getElem? (i := 542) (by decide +kernel), List.mem_of_getElem? (i := 543) (by decide +kernel)⟩
theorem lw_p11 : lw_okq (⟨"JobBoard", "extend", "(LJobBoard$Session;II)Z"⟩, 7) := ⟨⟨by decide +kernel, by decide +kernel⟩, List.mem_of_getElem? (i := 21) (by decide +kernel), List.mem_of_getElem? (i := 546) (by decide +kernel), List.mem_of_getElem? (i := 547) (by decide +kernel)⟩
theorem lw_p12 : lw_okq (⟨"JobBoard", "grant", "(LJobBoard$Session;)V"⟩, 7) := ⟨⟨by decide +kernel, by decide +kernel⟩, List.mem_of_getElem? (i := 21) (by decide +kernel), List.mem_of_getElem? (i := 562) (by decide +kernel), List.mem_of_getElem? (i := 563) (by decide +kernel)⟩
theorem lw_p13 : lw_okq (⟨"JobBoard", "endWait", "(LJobBoard$Session;I)V"⟩, 7) := ⟨⟨by decide +kernel, by decide +kernel⟩, List.mem_of_getElem? (i := 21) (by decide +kernel), List.mem_of_getElem? (i := 576) (by decide +kernel), List.mem_of_getElem? (i := 577) (by decide +kernel)⟩
theorem lw_p14 : lw_okq (⟨"JobBoard", "settle", "(I)V"⟩, 7) := ⟨⟨by decide +kernel, by decide +kernel⟩, List.mem_of_getElem? (i := 21) (by decide +kernel), List.mem_of_getElem? (i := 695) (by decide +kernel), List.mem_of_getElem? (i := 696) (by decide +kernel)⟩
theorem lw_p15 : lw_okq (⟨"JobBoard", "abandonDownTo", "(LJobBoard$Session;I)Z"⟩, 7) := ⟨⟨by decide +kernel, by decide +kernel⟩, List.mem_of_getElem? (i := 21) (by decide +kernel), List.mem_of_getElem? (i := 709) (by decide +kernel), List.mem_of_getElem? (i := 710) (by decide +kernel)⟩
def lw_privs_1 : List (MethodName × Nat) := [(⟨"JobBoard", "readySession", "(I)LJobBoard$Session;"⟩, 7), (⟨"JobBoard", "sessionAt", "(I)LJobBoard$Session;"⟩, 7), (⟨"java/lang/Throwable", "fillInStackTrace", "(I)Ljava/lang/Throwable;"⟩, 6), (⟨"JobBoard", "leaseEnd", "(I)I"⟩, 7), (⟨"JobBoard", "placeDraft", "(LJobBoard$Session;I)I"⟩, 7), (⟨"JobBoard$Board", "closeGaps", "()V"⟩, 3), (⟨"JobBoard", "report", "(LJobBoard$Tuple;)V"⟩, 7), (⟨"JobBoard", "fitsAlone", "(LJobBoard$Pattern;LJobBoard$Tuple;)Z"⟩, 7), (⟨"JobBoard$Pattern", "holds", "(IIJLJobBoard$Finding;)Z"⟩, 4), (⟨"JobBoard", "serveLine", "()V"⟩, 7), (⟨"JobBoard", "searchFor", "(LJobBoard$Session;I)Z"⟩, 7), (⟨"JobBoard", "extend", "(LJobBoard$Session;II)Z"⟩, 7), (⟨"JobBoard", "grant", "(LJobBoard$Session;)V"⟩, 7), (⟨"JobBoard", "endWait", "(LJobBoard$Session;I)V"⟩, 7), (⟨"JobBoard", "settle", "(I)V"⟩, 7), (⟨"JobBoard", "abandonDownTo", "(LJobBoard$Session;I)Z"⟩, 7)]
theorem lw_r1 : ∀ q ∈ lw_privs_1, lw_okq q := List.forall_mem_cons.mpr ⟨lw_p0, List.forall_mem_cons.mpr ⟨lw_p1, List.forall_mem_cons.mpr ⟨lw_p2, List.forall_mem_cons.mpr ⟨lw_p3, List.forall_mem_cons.mpr ⟨lw_p4, List.forall_mem_cons.mpr ⟨lw_p5, List.forall_mem_cons.mpr ⟨lw_p6, List.forall_mem_cons.mpr ⟨lw_p7, List.forall_mem_cons.mpr ⟨lw_p8, List.forall_mem_cons.mpr ⟨lw_p9, List.forall_mem_cons.mpr ⟨lw_p10, List.forall_mem_cons.mpr ⟨lw_p11, List.forall_mem_cons.mpr ⟨lw_p12, List.forall_mem_cons.mpr ⟨lw_p13, List.forall_mem_cons.mpr ⟨lw_p14, List.forall_mem_cons.mpr ⟨lw_p15, fun _ h => absurd h List.not_mem_nil⟩⟩⟩⟩⟩⟩⟩⟩⟩⟩⟩⟩⟩⟩⟩⟩
theorem lw_p16 : lw_okq (⟨"JobBoard", "endTuple", "(LJobBoard$Tuple;)Z"⟩, 7) := ⟨⟨by decide +kernel, by decide +kernel⟩, List.mem_of_getElem? (i := 21) (by decide +kernel), List.mem_of_getElem? (i := 736) (by decide +kernel), List.mem_of_getElem? (i := 737) (by decide +kernel)⟩
theorem lw_p17 : lw_okq (⟨"JobBoardModel", "clear", "(I)V"⟩, 37) := ⟨⟨by decide +kernel, by decide +kernel⟩, List.mem_of_getElem? (i := 775) (by decide +kernel), List.mem_of_getElem? (i := 781) (by decide +kernel), List.mem_of_getElem? (i := 782) (by decide +kernel)⟩
theorem lw_p18 : lw_okq (⟨"JobBoardModel", "first", "(IZ)I"⟩, 37) := ⟨⟨by decide +kernel, by decide +kernel⟩, List.mem_of_getElem? (i := 775) (by decide +kernel), List.mem_of_getElem? (i := 910) (by decide +kernel), List.mem_of_getElem? (i := 911) (by decide +kernel)⟩
theorem lw_p19 : lw_okq (⟨"JobBoardModel", "isSession", "(I)Z"⟩, 37) := ⟨⟨by decide +kernel, by decide +kernel⟩, List.mem_of_getElem? (i := 775) (by decide +kernel), List.mem_of_getElem? (i := 914) (by decide +kernel), List.mem_of_getElem? (i := 915) (by decide +kernel)⟩
theorem lw_p20 : lw_okq (⟨"JobBoardModel", "standing", "(I)I"⟩, 37) := ⟨⟨by decide +kernel, by decide +kernel⟩, List.mem_of_getElem? (i := 775) (by decide +kernel), List.mem_of_getElem? (i := 918) (by decide +kernel), List.mem_of_getElem? (i := 919) (by decide +kernel)⟩
theorem lw_p21 : lw_okq (⟨"JobBoardModel", "add", "(II)I"⟩, 37) := ⟨⟨by decide +kernel, by decide +kernel⟩, List.mem_of_getElem? (i := 775) (by decide +kernel), List.mem_of_getElem? (i := 937) (by decide +kernel), List.mem_of_getElem? (i := 938) (by decide +kernel)⟩
theorem lw_p22 : lw_okq (⟨"JobBoardModel", "outside", "(I)V"⟩, 37) := ⟨⟨by decide +kernel, by decide +kernel⟩, List.mem_of_getElem? (i := 775) (by decide +kernel), List.mem_of_getElem? (i := 941) (by decide +kernel), List.mem_of_getElem? (i := 942) (by decide +kernel)⟩
theorem lw_p23 : lw_okq (⟨"JobBoardModel", "fits", "(III)Z"⟩, 37) := ⟨⟨by decide +kernel, by decide +kernel⟩, List.mem_of_getElem? (i := 775) (by decide +kernel), List.mem_of_getElem? (i := 945) (by decide +kernel), List.mem_of_getElem? (i := 946) (by decide +kernel)⟩
theorem lw_p24 : lw_okq (⟨"JobBoardModel", "holds", "(III)Z"⟩, 37) := ⟨⟨by decide +kernel, by decide +kernel⟩, List.mem_of_getElem? (i := 775) (by decide +kernel), List.mem_of_getElem? (i := 949) (by decide +kernel), List.mem_of_getElem? (i := 950) (by decide +kernel)⟩
theorem lw_p25 : lw_okq (⟨"JobBoardModel", "bound", "(II)Z"⟩, 37) := ⟨⟨by decide +kernel, by decide +kernel⟩, List.mem_of_getElem? (i := 775) (by decide +kernel), List.mem_of_getElem? (i := 953) (by decide +kernel), List.mem_of_getElem? (i := 954) (by decide +kernel)⟩
theorem lw_p26 : lw_okq (⟨"JobBoardModel", "serve", "()V"⟩, 37) := ⟨⟨by decide +kernel, by decide +kernel⟩, List.mem_of_getElem? (i := 775) (by decide +kernel), List.mem_of_getElem? (i := 958) (by decide +kernel), List.mem_of_getElem? (i := 959) (by decide +kernel)⟩
theorem lw_p27 : lw_okq (⟨"JobBoardModel", "search", "(II)Z"⟩, 37) := ⟨⟨by decide +kernel, by decide +kernel⟩, List.mem_of_getElem? (i := 775) (by decide +kernel), List.mem_of_getElem? (i := 962) (by decide +kernel), List.mem_of_getElem? (i := 963) (by decide +kernel)⟩
theorem lw_p28 : lw_okq (⟨"JobBoardModel", "next", "(III)I"⟩, 37) := ⟨⟨by decide +kernel, by decide +kernel⟩, List.mem_of_getElem? (i := 775) (by decide +kernel), List.mem_of_getElem? (i := 966) (by decide +kernel), List.mem_of_getElem? (i := 967) (by decide +kernel)⟩
theorem lw_p29 : lw_okq (⟨"JobBoardModel", "sees", "(II)Z"⟩, 37) := ⟨⟨by decide +kernel, by decide +kernel⟩, List.mem_of_getElem? (i := 775) (by decide +kernel), List.mem_of_getElem? (i := 970) (by decide +kernel), List.mem_of_getElem? (i := 971) (by decide +kernel)⟩
theorem lw_p30 : lw_okq (⟨"JobBoardModel", "leave", "(I)V"⟩, 37) := ⟨⟨by decide +kernel, by decide +kernel⟩, List.mem_of_getElem? (i := 775) (by decide +kernel), List.mem_of_getElem? (i := 974) (by decide +kernel), List.mem_of_getElem? (i := 975) (by decide +kernel)⟩
theorem lw_p31 : lw_okq (⟨"JobBoardModel", "keep", "(IIZ)V"⟩, 37) := ⟨⟨by decide +kernel, by decide +kernel⟩, List.mem_of_getElem? (i := 775) (by decide +kernel), List.mem_of_getElem? (i := 978) (by decide +kernel), List.mem_of_getElem? (i := 979) (by decide +kernel)⟩
def lw_privs_2 : List (MethodName × Nat) := [(⟨"JobBoard", "endTuple", "(LJobBoard$Tuple;)Z"⟩, 7), (⟨"JobBoardModel", "clear", "(I)V"⟩, 37), (⟨"JobBoardModel", "first", "(IZ)I"⟩, 37), (⟨"JobBoardModel", "isSession", "(I)Z"⟩, 37), (⟨"JobBoardModel", "standing", "(I)I"⟩, 37), (⟨"JobBoardModel", "add", "(II)I"⟩, 37), (⟨"JobBoardModel", "outside", "(I)V"⟩, 37), (⟨"JobBoardModel", "fits", "(III)Z"⟩, 37), (⟨"JobBoardModel", "holds", "(III)Z"⟩, 37), (⟨"JobBoardModel", "bound", "(II)Z"⟩, 37), (⟨"JobBoardModel", "serve", "()V"⟩, 37), (⟨"JobBoardModel", "search", "(II)Z"⟩, 37), (⟨"JobBoardModel", "next", "(III)I"⟩, 37), (⟨"JobBoardModel", "sees", "(II)Z"⟩, 37), (⟨"JobBoardModel", "leave", "(I)V"⟩, 37), (⟨"JobBoardModel", "keep", "(IIZ)V"⟩, 37)]
theorem lw_r2 : ∀ q ∈ lw_privs_2, lw_okq q := List.forall_mem_cons.mpr ⟨lw_p16, List.forall_mem_cons.mpr ⟨lw_p17, List.forall_mem_cons.mpr ⟨lw_p18, List.forall_mem_cons.mpr ⟨lw_p19, List.forall_mem_cons.mpr ⟨lw_p20, List.forall_mem_cons.mpr ⟨lw_p21, List.forall_mem_cons.mpr ⟨lw_p22, List.forall_mem_cons.mpr ⟨lw_p23, List.forall_mem_cons.mpr ⟨lw_p24, List.forall_mem_cons.mpr ⟨lw_p25, List.forall_mem_cons.mpr ⟨lw_p26, List.forall_mem_cons.mpr ⟨lw_p27, List.forall_mem_cons.mpr ⟨lw_p28, List.forall_mem_cons.mpr ⟨lw_p29, List.forall_mem_cons.mpr ⟨lw_p30, List.forall_mem_cons.mpr ⟨lw_p31, fun _ h => absurd h List.not_mem_nil⟩⟩⟩⟩⟩⟩⟩⟩⟩⟩⟩⟩⟩⟩⟩⟩
theorem lw_p32 : lw_okq (⟨"JobBoardModel", "place", "(I)I"⟩, 37) := ⟨⟨by decide +kernel, by decide +kernel⟩, List.mem_of_getElem? (i := 775) (by decide +kernel), List.mem_of_getElem? (i := 982) (by decide +kernel), List.mem_of_getElem? (i := 983) (by decide +kernel)⟩
theorem lw_p33 : lw_okq (⟨"JobBoardModel", "remove", "(I)V"⟩, 37) := ⟨⟨by decide +kernel, by decide +kernel⟩, List.mem_of_getElem? (i := 775) (by decide +kernel), List.mem_of_getElem? (i := 986) (by decide +kernel), List.mem_of_getElem? (i := 987) (by decide +kernel)⟩
theorem lw_p34 : lw_okq (⟨"JobBoardModel", "ready", "(II)Z"⟩, 37) := ⟨⟨by decide +kernel, by decide +kernel⟩, List.mem_of_getElem? (i := 775) (by decide +kernel), List.mem_of_getElem? (i := 994) (by decide +kernel), List.mem_of_getElem? (i := 995) (by decide +kernel)⟩
theorem lw_p35 : lw_okq (⟨"JobBoardModel", "isPut", "(II)Z"⟩, 37) := ⟨⟨by decide +kernel, by decide +kernel⟩, List.mem_of_getElem? (i := 775) (by decide +kernel), List.mem_of_getElem? (i := 1026) (by decide +kernel), List.mem_of_getElem? (i := 1027) (by decide +kernel)⟩
theorem lw_p36 : lw_okq (⟨"JobBoardModel", "isTaken", "(II)Z"⟩, 37) := ⟨⟨by decide +kernel, by decide +kernel⟩, List.mem_of_getElem? (i := 775) (by decide +kernel), List.mem_of_getElem? (i := 1030) (by decide +kernel), List.mem_of_getElem? (i := 1031) (by decide +kernel)⟩
theorem lw_p37 : lw_okq (⟨"JobBoardModel", "drop", "(I)I"⟩, 37) := ⟨⟨by decide +kernel, by decide +kernel⟩, List.mem_of_getElem? (i := 775) (by decide +kernel), List.mem_of_getElem? (i := 1038) (by decide +kernel), List.mem_of_getElem? (i := 1039) (by decide +kernel)⟩
theorem lw_p38 : lw_okq (⟨"JobBoardModel", "ending", "()I"⟩, 37) := ⟨⟨by decide +kernel, by decide +kernel⟩, List.mem_of_getElem? (i := 775) (by decide +kernel), List.mem_of_getElem? (i := 1050) (by decide +kernel), List.mem_of_getElem? (i := 1051) (by decide +kernel)⟩
def lw_privs_3 : List (MethodName × Nat) := [(⟨"JobBoardModel", "place", "(I)I"⟩, 37), (⟨"JobBoardModel", "remove", "(I)V"⟩, 37), (⟨"JobBoardModel", "ready", "(II)Z"⟩, 37), (⟨"JobBoardModel", "isPut", "(II)Z"⟩, 37), (⟨"JobBoardModel", "isTaken", "(II)Z"⟩, 37), (⟨"JobBoardModel", "drop", "(I)I"⟩, 37), (⟨"JobBoardModel", "ending", "()I"⟩, 37)]
theorem lw_r3 : ∀ q ∈ lw_privs_3, lw_okq q := List.forall_mem_cons.mpr ⟨lw_p32, List.forall_mem_cons.mpr ⟨lw_p33, List.forall_mem_cons.mpr ⟨lw_p34, List.forall_mem_cons.mpr ⟨lw_p35, List.forall_mem_cons.mpr ⟨lw_p36, List.forall_mem_cons.mpr ⟨lw_p37, List.forall_mem_cons.mpr ⟨lw_p38, fun _ h => absurd h List.not_mem_nil⟩⟩⟩⟩⟩⟩⟩
def lw_privs : List (MethodName × Nat) := lw_privs_1 ++ (lw_privs_2 ++ (lw_privs_3))
def lw_tbl : List Cond := k2_sels lw_privs ++ tables_1
theorem lw_privs_ok : ∀ q ∈ lw_privs, lw_okq q := by
  show ∀ q ∈ lw_privs_1 ++ (lw_privs_2 ++ (lw_privs_3)), lw_okq q
  exact List.forall_mem_append.mpr ⟨lw_r1, List.forall_mem_append.mpr ⟨lw_r2, lw_r3⟩⟩
end
section
/-! The classes: names, fields, their words. Ours, written by ops.py -/
theorem tb_of {i : Nat} {w : Cond} (h : tables_1[i]? = some w) : w ∈ lw_tbl := List.mem_append_right _ (List.mem_of_getElem? h)
def gt : List Cond := lw_tbl.filter goodWord
theorem gt_of {w : Cond} (h : w ∈ lw_tbl) (g : goodWord w = true) : w ∈ gt := List.mem_filter.mpr ⟨h, g⟩
theorem in_ps {ws : List Cond} (ps : List Nat) (hp : ws = ps.filterMap (fun i => tables_1[i]?)) (hg : ws.all goodWord = true) : ∀ w ∈ ws, w ∈ gt := by
  intro w hw
  have hg := List.all_eq_true.mp hg w hw
  rw [hp] at hw
  obtain ⟨i, -, hi⟩ := List.mem_filterMap.mp hw
  exact gt_of (tb_of hi) hg
abbrev R_JB : String := "JobBoard"
def F_JB : u_T := fun k => match k with
  | 0 => ("JobBoard", "sessions", "[LJobBoard$Session;", true)
  | 1 => ("JobBoard", "board", "LJobBoard$Board;", true)
  | 2 => ("JobBoard", "line", "LJobBoard$Line;", true)
  | 3 => ("JobBoard", "orders", "[LJobBoard$Order;", true)
  | 4 => ("JobBoard", "orderCount", "I", false)
  | 5 => ("JobBoard", "time", "I", false)
  | _ => ("JobBoard", "trial", "LJobBoard$Finding;", true)
def t_JB : Nat → FieldType := fun k => match k with
  | 0 => .array (.object "JobBoard$Session")
  | 1 => .object "JobBoard$Board"
  | 2 => .object "JobBoard$Line"
  | 3 => .array (.object "JobBoard$Order")
  | 4 => .int
  | 5 => .int
  | _ => .object "JobBoard$Finding"
theorem n_JB : ∀ a, a < 7 → ∀ b, b < 7 → a ≠ b → (F_JB a).2.1 ≠ (F_JB b).2.1 := by decide +kernel
theorem t_JB_ok : ∀ k, k < 7 → parseFieldDescriptor (F_JB k).2.2.1 = some (t_JB k) := by decide +kernel
theorem in_JB : ∀ w ∈ u_ws R_JB F_JB 7, w ∈ gt := in_ps [246, 248, 250, 252, 254, 256, 258] (by decide +kernel) (by decide +kernel)
abbrev R_Board : String := "JobBoard$Board"
def F_Board : u_T := fun k => match k with
  | 0 => ("JobBoard$Board", "rows", "[LJobBoard$Tuple;", true)
  | 1 => ("JobBoard$Board", "used", "I", false)
  | _ => ("JobBoard$Board", "lastNumber", "I", false)
def t_Board : Nat → FieldType := fun k => match k with
  | 0 => .array (.object "JobBoard$Tuple")
  | 1 => .int
  | _ => .int
theorem n_Board : ∀ a, a < 3 → ∀ b, b < 3 → a ≠ b → (F_Board a).2.1 ≠ (F_Board b).2.1 := by decide +kernel
theorem t_Board_ok : ∀ k, k < 3 → parseFieldDescriptor (F_Board k).2.2.1 = some (t_Board k) := by decide +kernel
theorem in_Board : ∀ w ∈ u_ws R_Board F_Board 3, w ∈ gt := in_ps [192, 194, 196] (by decide +kernel) (by decide +kernel)
abbrev R_Tuple : String := "JobBoard$Tuple"
def F_Tuple : u_T := fun k => match k with
  | 0 => ("JobBoard$Tuple", "onBoard", "Z", false)
  | 1 => ("JobBoard$Tuple", "number", "I", false)
  | 2 => ("JobBoard$Tuple", "leaseEnd", "I", false)
  | 3 => ("JobBoard$Tuple", "putSession", "I", false)
  | 4 => ("JobBoard$Tuple", "putDeal", "I", false)
  | 5 => ("JobBoard$Tuple", "takenSession", "I", false)
  | 6 => ("JobBoard$Tuple", "takenDeal", "I", false)
  | _ => ("JobBoard$Tuple", "fields", "LJobBoard$Fields;", true)
def t_Tuple : Nat → FieldType := fun k => match k with
  | 0 => .boolean
  | 1 => .int
  | 2 => .int
  | 3 => .int
  | 4 => .int
  | 5 => .int
  | 6 => .int
  | _ => .object "JobBoard$Fields"
theorem n_Tuple : ∀ a, a < 8 → ∀ b, b < 8 → a ≠ b → (F_Tuple a).2.1 ≠ (F_Tuple b).2.1 := by decide +kernel
theorem t_Tuple_ok : ∀ k, k < 8 → parseFieldDescriptor (F_Tuple k).2.2.1 = some (t_Tuple k) := by decide +kernel
theorem in_Tuple : ∀ w ∈ u_ws R_Tuple F_Tuple 8, w ∈ gt := in_ps [170, 172, 174, 176, 178, 180, 182, 184] (by decide +kernel) (by decide +kernel)
abbrev R_Fields : String := "JobBoard$Fields"
def F_Fields : u_T := fun k => match k with
  | 0 => ("JobBoard$Fields", "count", "I", false)
  | 1 => ("JobBoard$Fields", "kinds", "[I", true)
  | _ => ("JobBoard$Fields", "values", "[J", true)
def t_Fields : Nat → FieldType := fun k => match k with
  | 0 => .int
  | 1 => .array .int
  | _ => .array .long
theorem n_Fields : ∀ a, a < 3 → ∀ b, b < 3 → a ≠ b → (F_Fields a).2.1 ≠ (F_Fields b).2.1 := by decide +kernel
theorem t_Fields_ok : ∀ k, k < 3 → parseFieldDescriptor (F_Fields k).2.2.1 = some (t_Fields k) := by decide +kernel
theorem in_Fields : ∀ w ∈ u_ws R_Fields F_Fields 3, w ∈ gt := in_ps [54, 56, 58] (by decide +kernel) (by decide +kernel)
abbrev R_Pattern : String := "JobBoard$Pattern"
def F_Pattern : u_T := fun k => match k with
  | 0 => ("JobBoard$Pattern", "count", "I", false)
  | 1 => ("JobBoard$Pattern", "codes", "[I", true)
  | 2 => ("JobBoard$Pattern", "as", "[J", true)
  | _ => ("JobBoard$Pattern", "bs", "[J", true)
def t_Pattern : Nat → FieldType := fun k => match k with
  | 0 => .int
  | 1 => .array .int
  | 2 => .array .long
  | _ => .array .long
theorem n_Pattern : ∀ a, a < 4 → ∀ b, b < 4 → a ≠ b → (F_Pattern a).2.1 ≠ (F_Pattern b).2.1 := by decide +kernel
theorem t_Pattern_ok : ∀ k, k < 4 → parseFieldDescriptor (F_Pattern k).2.2.1 = some (t_Pattern k) := by decide +kernel
theorem in_Pattern : ∀ w ∈ u_ws R_Pattern F_Pattern 4, w ∈ gt := in_ps [97, 99, 101, 103] (by decide +kernel) (by decide +kernel)
abbrev R_Finding : String := "JobBoard$Finding"
def F_Finding : u_T := fun k => match k with
  | 0 => ("JobBoard$Finding", "numbers", "[I", true)
  | 1 => ("JobBoard$Finding", "bound", "I", false)
  | 2 => ("JobBoard$Finding", "kinds", "[I", true)
  | _ => ("JobBoard$Finding", "values", "[J", true)
def t_Finding : Nat → FieldType := fun k => match k with
  | 0 => .array .int
  | 1 => .int
  | 2 => .array .int
  | _ => .array .long
theorem n_Finding : ∀ a, a < 4 → ∀ b, b < 4 → a ≠ b → (F_Finding a).2.1 ≠ (F_Finding b).2.1 := by decide +kernel
theorem t_Finding_ok : ∀ k, k < 4 → parseFieldDescriptor (F_Finding k).2.2.1 = some (t_Finding k) := by decide +kernel
theorem in_Finding : ∀ w ∈ u_ws R_Finding F_Finding 4, w ∈ gt := in_ps [77, 79, 81, 83] (by decide +kernel) (by decide +kernel)
abbrev R_Session : String := "JobBoard$Session"
def F_Session : u_T := fun k => match k with
  | 0 => ("JobBoard$Session", "id", "I", true)
  | 1 => ("JobBoard$Session", "draft", "LJobBoard$Fields;", true)
  | 2 => ("JobBoard$Session", "patterns", "[LJobBoard$Pattern;", true)
  | 3 => ("JobBoard$Session", "finding", "LJobBoard$Finding;", true)
  | 4 => ("JobBoard$Session", "deals", "I", false)
  | 5 => ("JobBoard$Session", "state", "I", false)
  | 6 => ("JobBoard$Session", "joined", "I", false)
  | _ => ("JobBoard$Session", "takes", "Z", false)
def t_Session : Nat → FieldType := fun k => match k with
  | 0 => .int
  | 1 => .object "JobBoard$Fields"
  | 2 => .array (.object "JobBoard$Pattern")
  | 3 => .object "JobBoard$Finding"
  | 4 => .int
  | 5 => .int
  | 6 => .int
  | _ => .boolean
theorem n_Session : ∀ a, a < 8 → ∀ b, b < 8 → a ≠ b → (F_Session a).2.1 ≠ (F_Session b).2.1 := by decide +kernel
theorem t_Session_ok : ∀ k, k < 8 → parseFieldDescriptor (F_Session k).2.2.1 = some (t_Session k) := by decide +kernel
theorem in_Session : ∀ w ∈ u_ws R_Session F_Session 8, w ∈ gt := in_ps [121, 123, 125, 127, 129, 131, 133, 135] (by decide +kernel) (by decide +kernel)
abbrev R_Order : String := "JobBoard$Order"
def F_Order : u_T := fun k => match k with
  | 0 => ("JobBoard$Order", "pattern", "LJobBoard$Pattern;", true)
  | 1 => ("JobBoard$Order", "reports", "[I", true)
  | 2 => ("JobBoard$Order", "count", "I", false)
  | _ => ("JobBoard$Order", "over", "Z", false)
def t_Order : Nat → FieldType := fun k => match k with
  | 0 => .object "JobBoard$Pattern"
  | 1 => .array .int
  | 2 => .int
  | _ => .boolean
theorem n_Order : ∀ a, a < 4 → ∀ b, b < 4 → a ≠ b → (F_Order a).2.1 ≠ (F_Order b).2.1 := by decide +kernel
theorem t_Order_ok : ∀ k, k < 4 → parseFieldDescriptor (F_Order k).2.2.1 = some (t_Order k) := by decide +kernel
theorem in_Order : ∀ w ∈ u_ws R_Order F_Order 4, w ∈ gt := in_ps [228, 230, 232, 234] (by decide +kernel) (by decide +kernel)
abbrev R_Line : String := "JobBoard$Line"
def F_Line : u_T := fun k => match k with
  | 0 => ("JobBoard$Line", "members", "[I", true)
  | _ => ("JobBoard$Line", "count", "I", false)
def t_Line : Nat → FieldType := fun k => match k with
  | 0 => .array .int
  | _ => .int
theorem n_Line : ∀ a, a < 2 → ∀ b, b < 2 → a ≠ b → (F_Line a).2.1 ≠ (F_Line b).2.1 := by decide +kernel
theorem t_Line_ok : ∀ k, k < 2 → parseFieldDescriptor (F_Line k).2.2.1 = some (t_Line k) := by decide +kernel
theorem in_Line : ∀ w ∈ u_ws R_Line F_Line 2, w ∈ gt := in_ps [209, 211] (by decide +kernel) (by decide +kernel)
abbrev R_M : String := "JobBoardModel"
def F_M : u_T := fun k => match k with
  | 0 => ("JobBoardModel", "code", "I", false)
  | 1 => ("JobBoardModel", "tuples", "I", false)
  | 2 => ("JobBoardModel", "latest", "I", false)
  | 3 => ("JobBoardModel", "now", "I", false)
  | 4 => ("JobBoardModel", "number", "[I", true)
  | 5 => ("JobBoardModel", "fields", "[I", true)
  | 6 => ("JobBoardModel", "end", "[I", true)
  | 7 => ("JobBoardModel", "putBy", "[I", true)
  | 8 => ("JobBoardModel", "putIn", "[I", true)
  | 9 => ("JobBoardModel", "takenBy", "[I", true)
  | 10 => ("JobBoardModel", "takenIn", "[I", true)
  | 11 => ("JobBoardModel", "kind", "[I", true)
  | 12 => ("JobBoardModel", "value", "[J", true)
  | 13 => ("JobBoardModel", "sessions", "I", true)
  | 14 => ("JobBoardModel", "deals", "[I", true)
  | 15 => ("JobBoardModel", "drafted", "[I", true)
  | 16 => ("JobBoardModel", "draftKind", "[I", true)
  | 17 => ("JobBoardModel", "draftValue", "[J", true)
  | 18 => ("JobBoardModel", "forms", "[I", true)
  | 19 => ("JobBoardModel", "formCode", "[I", true)
  | 20 => ("JobBoardModel", "formA", "[J", true)
  | 21 => ("JobBoardModel", "formB", "[J", true)
  | 22 => ("JobBoardModel", "waiting", "I", false)
  | 23 => ("JobBoardModel", "line", "[I", true)
  | 24 => ("JobBoardModel", "joinedBy", "[I", true)
  | 25 => ("JobBoardModel", "how", "[I", true)
  | 26 => ("JobBoardModel", "last", "[I", true)
  | 27 => ("JobBoardModel", "foundNumber", "[I", true)
  | 28 => ("JobBoardModel", "foundKind", "[I", true)
  | 29 => ("JobBoardModel", "foundValue", "[J", true)
  | 30 => ("JobBoardModel", "orders", "I", false)
  | 31 => ("JobBoardModel", "reports", "[I", true)
  | 32 => ("JobBoardModel", "report", "[I", true)
  | 33 => ("JobBoardModel", "over", "[Z", true)
  | 34 => ("JobBoardModel", "boundKind", "[I", true)
  | 35 => ("JobBoardModel", "boundValue", "[J", true)
  | _ => ("JobBoardModel", "at", "[I", true)
def t_M : Nat → FieldType := fun k => match k with
  | 0 => .int
  | 1 => .int
  | 2 => .int
  | 3 => .int
  | 4 => .array .int
  | 5 => .array .int
  | 6 => .array .int
  | 7 => .array .int
  | 8 => .array .int
  | 9 => .array .int
  | 10 => .array .int
  | 11 => .array .int
  | 12 => .array .long
  | 13 => .int
  | 14 => .array .int
  | 15 => .array .int
  | 16 => .array .int
  | 17 => .array .long
  | 18 => .array .int
  | 19 => .array .int
  | 20 => .array .long
  | 21 => .array .long
  | 22 => .int
  | 23 => .array .int
  | 24 => .array .int
  | 25 => .array .int
  | 26 => .array .int
  | 27 => .array .int
  | 28 => .array .int
  | 29 => .array .long
  | 30 => .int
  | 31 => .array .int
  | 32 => .array .int
  | 33 => .array .boolean
  | 34 => .array .int
  | 35 => .array .long
  | _ => .array .int
theorem n_M : ∀ a, a < 37 → ∀ b, b < 37 → a ≠ b → (F_M a).2.1 ≠ (F_M b).2.1 := by decide +kernel
theorem t_M_ok : ∀ k, k < 37 → parseFieldDescriptor (F_M k).2.2.1 = some (t_M k) := by decide +kernel
theorem in_M : ∀ w ∈ u_ws R_M F_M 37, w ∈ gt := in_ps [821, 823, 825, 827, 829, 831, 833, 835, 837, 839, 841, 843, 845, 847, 849, 851, 853, 855, 857, 859, 861, 863, 865, 867, 869, 871, 873, 875, 877, 879, 881, 883, 885, 887, 889, 891, 893] (by decide +kernel) (by decide +kernel)
abbrev vcl : List vw_C := [(R_JB, F_JB, 7), (R_Board, F_Board, 3), (R_Tuple, F_Tuple, 8), (R_Fields, F_Fields, 3), (R_Pattern, F_Pattern, 4), (R_Finding, F_Finding, 4), (R_Session, F_Session, 8), (R_Order, F_Order, 4), (R_Line, F_Line, 2), (R_M, F_M, 37)]
theorem vc_ok : ∀ (ci : Nat) (q : vw_C), vcl[ci]? = some q → (∀ w ∈ u_ws q.1 q.2.1 q.2.2, w ∈ gt) ∧ ∃ ty : Nat → FieldType, (∀ k, k < q.2.2 → parseFieldDescriptor (q.2.1 k).2.2.1 = some (ty k)) ∧ ∀ a, a < q.2.2 → ∀ b, b < q.2.2 → a ≠ b → (q.2.1 a).2.1 ≠ (q.2.1 b).2.1 := by
  intro ci q h
  match ci, h with
  | 0, h => cases h; exact ⟨in_JB, t_JB, t_JB_ok, n_JB⟩
  | 1, h => cases h; exact ⟨in_Board, t_Board, t_Board_ok, n_Board⟩
  | 2, h => cases h; exact ⟨in_Tuple, t_Tuple, t_Tuple_ok, n_Tuple⟩
  | 3, h => cases h; exact ⟨in_Fields, t_Fields, t_Fields_ok, n_Fields⟩
  | 4, h => cases h; exact ⟨in_Pattern, t_Pattern, t_Pattern_ok, n_Pattern⟩
  | 5, h => cases h; exact ⟨in_Finding, t_Finding, t_Finding_ok, n_Finding⟩
  | 6, h => cases h; exact ⟨in_Session, t_Session, t_Session_ok, n_Session⟩
  | 7, h => cases h; exact ⟨in_Order, t_Order, t_Order_ok, n_Order⟩
  | 8, h => cases h; exact ⟨in_Line, t_Line, t_Line_ok, n_Line⟩
  | 9, h => cases h; exact ⟨in_M, t_M, t_M_ok, n_M⟩
  | _ + 10, h => cases h
end
section
/-! Tables of kinds: what stands in which field. Ours, written by ops.py -/
def q_kot : List (Option (Nat × List (Nat × Nat × Nat))) := [some (0, [(2, 1, 0), (2, 2, 0), (2, 21, 0), (2, 20, 0), (0, 0, 0), (0, 0, 0), (2, 12, 0)]),
  none,
  some (1, [(2, 3, 0), (0, 0, 0), (0, 0, 0)]),
  none,
  some (2, [(1, 0, 0), (0, 0, 0), (0, 0, 0), (0, 0, 0), (0, 0, 0), (0, 0, 0), (0, 0, 0), (2, 5, 1)]),
  some (3, [(0, 0, 0), (2, 6, 1), (2, 7, 1)]),
  none,
  none,
  some (4, [(0, 0, 0), (2, 9, 1), (2, 10, 1), (2, 11, 1)]),
  none,
  none,
  none,
  some (5, [(2, 13, 1), (0, 0, 0), (2, 14, 1), (2, 15, 1)]),
  none,
  none,
  none,
  some (6, [(0, 0, 0), (2, 5, 2), (2, 17, 1), (2, 12, 3), (0, 0, 0), (0, 0, 0), (0, 0, 0), (1, 0, 0)]),
  none,
  some (7, [(2, 8, 1), (2, 19, 1), (0, 0, 0), (1, 0, 0)]),
  none,
  none,
  some (8, [(2, 22, 0), (0, 0, 0)]),
  none,
  none,
  some (9, [(0, 0, 0), (0, 0, 0), (0, 0, 0), (0, 0, 0), (2, 25, 0), (2, 26, 0), (2, 27, 0), (2, 28, 0), (2, 29, 0), (2, 30, 0), (2, 31, 0), (2, 32, 0), (2, 33, 0), (0, 0, 0), (2, 34, 0), (2, 35, 0), (2, 36, 0), (2, 37, 0), (2, 38, 0), (2, 39, 0), (2, 40, 0), (2, 41, 0), (0, 0, 0), (2, 42, 0), (2, 43, 0), (2, 44, 0), (2, 45, 0), (2, 46, 0), (2, 47, 0), (2, 48, 0), (0, 0, 0), (2, 49, 0), (2, 50, 0), (2, 51, 0), (2, 52, 0), (2, 53, 0), (2, 54, 0)]),
  none,
  none,
  none,
  none,
  none,
  none,
  none,
  none,
  none,
  none,
  none,
  none,
  none,
  none,
  none,
  none,
  none,
  none,
  none,
  none,
  none,
  none,
  none,
  none,
  none,
  none,
  none,
  none,
  none,
  none]
def q_kat : List (Option (Nat × Nat × Nat × Nat)) := [none, some (3, 16, 0, 1), none, some (4, 4, 20, 0), none, none, some (0, 0, 4, 0), some (1, 0, 4, 0), none, some (0, 0, 4, 0), some (1, 0, 4, 0), some (1, 0, 4, 0), none, some (0, 0, 3, 0), some (0, 0, 4, 0), some (1, 0, 4, 0), none, some (5, 8, 3, 0), none, some (0, 0, 5, 0), some (6, 18, 6, 0), none, some (0, 0, 4, 0), some (1, 0, 1, 0), none, some (0, 0, 20, 0), some (0, 0, 20, 0), some (0, 0, 20, 0), some (0, 0, 20, 0), some (0, 0, 20, 0), some (0, 0, 20, 0), some (0, 0, 20, 0), some (0, 0, 80, 0), some (1, 0, 80, 0), some (0, 0, 4, 0), some (0, 0, 4, 0), some (0, 0, 16, 0), some (1, 0, 16, 0), some (0, 0, 18, 0), some (0, 0, 72, 0), some (1, 0, 72, 0), some (1, 0, 72, 0), some (0, 0, 4, 0), some (0, 0, 4, 0), some (0, 0, 4, 0), some (0, 0, 4, 0), some (0, 0, 12, 0), some (0, 0, 16, 0), some (1, 0, 16, 0), some (0, 0, 6, 0), some (0, 0, 30, 0), some (2, 0, 6, 0), some (0, 0, 16, 0), some (1, 0, 16, 0), some (0, 0, 3, 0)]
def q_ctt : List (Nat × Nat) := [(1, 0), (1, 0), (1, 0), (1, 0), (20, 0), (20, 1), (20, 1), (20, 1), (6, 2), (6, 2), (6, 2), (6, 2), (1, 1), (1, 1), (1, 1), (1, 1), (0, 1), (0, 1), (6, 0), (6, 0), (1, 0), (1, 0), (1, 0), (1, 0), (1, 0), (1, 0), (1, 0), (1, 0), (1, 0), (1, 0), (1, 0), (1, 0), (1, 0), (1, 0), (1, 0), (1, 0), (1, 0), (1, 0), (1, 0), (1, 0), (1, 0), (1, 0), (1, 0), (1, 0), (1, 0), (1, 0), (1, 0), (1, 0), (1, 0), (1, 0), (1, 0), (1, 0), (1, 0), (1, 0), (1, 0)]
/-! An interpreter over plain numbers: values, the state, one step, a run. Ours. -/
abbrev PV : Type := Int32 ⊕ Int64 ⊕ Option (Nat × Nat)
/-- the locals: what is known of each -/
abbrev PL : Type := Nat → Option PV
/-- int fields by kind, field, index; int rows by kind, index; long rows; the places of rows of references -/
abbrev J : Type := (Nat → Nat → Nat → Int32) × (Nat → Nat → Nat → Int32) × (Nat → Nat → Nat → Int64) × (Nat → Nat → Nat → Nat)
abbrev Op : Type := Nat × Int × Nat × Nat × List Nat
abbrev Res : Type := (Option PV ⊕ Nat) × J
abbrev MRow : Type := MethodName × ByteArray × Nat × Option FieldType
def q_cat (v : PV) : Nat := match v with
  | .inl _ => 1
  | .inr (.inl _) => 2
  | .inr (.inr _) => 1
def q_tv (ad : Nat → Nat → Nat) (v : PV) : Value := match v with
  | .inl x => .int x
  | .inr (.inl y) => .long y
  | .inr (.inr none) => .null
  | .inr (.inr (some q)) => .ref (ad q.1 q.2)
def q_s1 (L : PL) (a : Nat) (v : PV) : PL := fun b => bif Nat.beq b a then some v else bif Nat.beq (b + 1) a then (match L b with
  | some w => bif Nat.beq (q_cat w) 2 then none else some w
  | none => none) else L b
def q_s2 (L : PL) (a : Nat) (v : PV) : PL := fun b => bif Nat.beq b a then some v else bif Nat.beq b (a + 1) then none else bif Nat.beq (b + 1) a then (match L b with
  | some w => bif Nat.beq (q_cat w) 2 then none else some w
  | none => none) else L b
def q_args : Nat → List PV → PL
  | _, [] => fun _ => none
  | i, v :: vs => fun b => bif Nat.beq b i then some v else q_args (bif Nat.beq (q_cat v) 2 then i + 2 else i + 1) vs b
def q_pI : List PV → Option (Int32 × List PV)
  | .inl x :: r => some (x, r)
  | _ => none
def q_pL : List PV → Option (Int64 × List PV)
  | .inr (.inl x) :: r => some (x, r)
  | _ => none
def q_pR : List PV → Option ((Nat × Nat) × List PV)
  | .inr (.inr (some q)) :: r => some (q, r)
  | _ => none
def q_pN : List PV → Option (Option (Nat × Nat) × List PV)
  | .inr (.inr q) :: r => some (q, r)
  | _ => none
def q_p1 : List PV → Option (PV × List PV)
  | .inl x :: r => some (.inl x, r)
  | .inr (.inr x) :: r => some (.inr (.inr x), r)
  | _ => none
def q_pop : Nat → List PV → Option (List PV × List PV)
  | 0, st => some ([], st)
  | _ + 1, [] => none
  | j + 1, v :: r => match q_pop j r with
    | none => none
    | some q => some (q.1 ++ [v], q.2)
def q_sI (σ : J) (k f i : Nat) (v : Int32) : J := (fun x y z => if x = k ∧ y = f ∧ z = i then v else σ.1 x y z, σ.2)
def q_sA (σ : J) (k i : Nat) (g : Nat → Int32) : J := (σ.1, fun x y => if x = k ∧ y = i then g else σ.2.1 x y, σ.2.2)
def q_sL (σ : J) (k i : Nat) (g : Nat → Int64) : J := (σ.1, σ.2.1, fun x y => if x = k ∧ y = i then g else σ.2.2.1 x y, σ.2.2.2)
def q_sP (σ : J) (k i : Nat) (g : Nat → Nat) : J := (σ.1, σ.2.1, σ.2.2.1, fun x y => if x = k ∧ y = i then g else σ.2.2.2 x y)
def q_ko (k : Nat) : Option (Nat × List (Nat × Nat × Nat)) := q_kot.getD k none
def q_ka (k : Nat) : Option (Nat × Nat × Nat × Nat) := q_kat.getD k none
def q_nn (n : Nat) (q : Nat × Nat) : Nat := match q.2 with
  | 0 => q.1
  | 1 => q.1 + n
  | _ => q.1 + 3 * n
def q_ct (n k : Nat) : Nat := q_nn n (q_ctt.getD k (0, 0))
def q_ix (c i : Nat) : Nat := match c with
  | 0 => 0
  | 1 => i
  | 2 => 20 + i
  | _ => i + 1
def q_fv (σ : J) (k i f : Nat) (d : Nat × Nat × Nat) : PV := bif Nat.blt d.1 2 then .inl (σ.1 k f i) else .inr (.inr (some (d.2.1, q_ix d.2.2 i)))
def q_in (i : Int32) (n : Nat) : Bool := decide (¬ (i < 0 ∨ n ≤ i.toNatClampNeg))
def q_ok (n : Nat) (v : PV) : Bool := match v with
  | .inr (.inr (some q)) => Nat.beq q.1 63 || Nat.blt q.2 (q_ct n q.1)
  | _ => true
def q_rm (st : List PV) : Bool := Nat.ble ((st.map q_cat).sum) 8
def q_sw (g : Nat → Option Res) (x : Int32) : Nat → List Nat → Nat → Option Res
  | _, [], t => g t
  | v, u :: r, t => if x = Int32.ofNat v then g u else q_sw g x (v + 1) r t
/-- rows that may be copied: from a, place sp, to b, place dp, many -/
def q_cpo (sp dp m : Int32) (n0 n1 : Nat) : Bool := decide (¬ sp < 0) && decide (¬ dp < 0) && decide (¬ m < 0) && Nat.ble (sp.toNatClampNeg + m.toNatClampNeg) n0 && Nat.ble (dp.toNatClampNeg + m.toNatClampNeg) n1
/-- behind a call -/
def q_af (n : Nat) (g : List PV → J → Option Res) (rest : List PV) (z : Res) : Option Res := match z with
  | (.inl none, σ) => g rest σ
  | (.inl (some v), σ) => bif q_ok n v then g (v :: rest) σ else none
  | (.inr e, σ) => some (.inr e, σ)
def q_stp (n : Nat) (g : Nat → PL → List PV → J → Option Res) (cal : Nat → List PV → J → Option Res) (pc : Nat) (o : Op) (L : PL) (st : List PV) (σ : J) : Option Res :=
  match o.1 with
  | 0 => g (pc + 1) L (.inl (Int32.ofInt o.2.1) :: st) σ
  | 1 => g (pc + 2) L (.inl (Int32.ofInt o.2.1) :: st) σ
  | 2 => g (pc + 3) L (.inl (Int32.ofInt o.2.1) :: st) σ
  | 3 => g (pc + 1) L (.inr (.inl (Int64.ofInt o.2.1)) :: st) σ
  | 4 => g (pc + 3) L (.inr (.inl (Int64.ofInt o.2.1)) :: st) σ
  | 6 => (L o.2.2.1).bind fun v => (q_pI (v :: st)).bind fun _ => g (pc + 1) L (v :: st) σ
  | 7 => (L o.2.2.1).bind fun v => (q_pI (v :: st)).bind fun _ => g (pc + 2) L (v :: st) σ
  | 8 => (L o.2.2.1).bind fun v => (q_pL (v :: st)).bind fun _ => g (pc + 1) L (v :: st) σ
  | 9 => (L o.2.2.1).bind fun v => (q_pL (v :: st)).bind fun _ => g (pc + 2) L (v :: st) σ
  | 10 => (L o.2.2.1).bind fun v => (q_pN (v :: st)).bind fun _ => g (pc + 1) L (v :: st) σ
  | 11 => (L o.2.2.1).bind fun v => (q_pN (v :: st)).bind fun _ => g (pc + 2) L (v :: st) σ
  | 12 => (q_pI st).bind fun q => g (pc + 1) (q_s1 L o.2.2.1 (.inl q.1)) q.2 σ
  | 13 => (q_pI st).bind fun q => g (pc + 2) (q_s1 L o.2.2.1 (.inl q.1)) q.2 σ
  | 14 => (q_pL st).bind fun q => g (pc + 1) (q_s2 L o.2.2.1 (.inr (.inl q.1))) q.2 σ
  | 15 => (q_pL st).bind fun q => g (pc + 2) (q_s2 L o.2.2.1 (.inr (.inl q.1))) q.2 σ
  | 16 => (q_pN st).bind fun q => g (pc + 1) (q_s1 L o.2.2.1 (.inr (.inr q.1))) q.2 σ
  | 17 => (q_pN st).bind fun q => g (pc + 2) (q_s1 L o.2.2.1 (.inr (.inr q.1))) q.2 σ
  | 18 => (L o.2.2.1).bind fun v => (q_pI [v]).bind fun q => g (pc + 3) (q_s1 L o.2.2.1 (.inl (q.1 + Int32.ofInt o.2.1))) st σ
  | 19 => (q_pI st).bind fun y => (q_pI y.2).bind fun x => g (pc + 1) L (.inl (x.1 + y.1) :: x.2) σ
  | 20 => (q_pI st).bind fun y => (q_pI y.2).bind fun x => g (pc + 1) L (.inl (x.1 - y.1) :: x.2) σ
  | 21 => (q_pI st).bind fun y => (q_pI y.2).bind fun x => g (pc + 1) L (.inl (x.1 * y.1) :: x.2) σ
  | 22 => (q_pI st).bind fun y => (q_pI y.2).bind fun x => if y.1 = 0 then none else g (pc + 1) L (.inl (x.1 - x.1 / y.1 * y.1) :: x.2) σ
  | 23 => (q_pI st).bind fun y => (q_pI y.2).bind fun x => g (pc + 1) L (.inl (x.1 &&& y.1) :: x.2) σ
  | 24 => (q_pI st).bind fun y => (q_pI y.2).bind fun x => g (pc + 1) L (.inl (x.1 ||| y.1) :: x.2) σ
  | 25 => (q_pI st).bind fun y => (q_pI y.2).bind fun x => g (pc + 1) L (.inl (x.1 <<< (y.1 &&& 31)) :: x.2) σ
  | 26 => (q_pI st).bind fun y => (q_pI y.2).bind fun x => g (pc + 1) L (.inl (x.1 >>> (y.1 &&& 31)) :: x.2) σ
  | 27 => (q_pL st).bind fun y => (q_pL y.2).bind fun x => g (pc + 1) L (.inr (.inl (x.1 + y.1)) :: x.2) σ
  | 28 => (q_pL st).bind fun y => (q_pL y.2).bind fun x => g (pc + 1) L (.inr (.inl (x.1 &&& y.1)) :: x.2) σ
  | 29 => (q_pL st).bind fun y => (q_pL y.2).bind fun x => g (pc + 1) L (.inr (.inl (x.1 ||| y.1)) :: x.2) σ
  | 30 => (q_pI st).bind fun y => (q_pL y.2).bind fun x => g (pc + 1) L (.inr (.inl (x.1 <<< (y.1.toInt64 &&& 63))) :: x.2) σ
  | 31 => (q_pI st).bind fun y => (q_pL y.2).bind fun x => g (pc + 1) L (.inr (.inl (x.1 >>> (y.1.toInt64 &&& 63))) :: x.2) σ
  | 32 => (q_pI st).bind fun y => (q_pL y.2).bind fun x => g (pc + 1) L (.inr (.inl (x.1.toUInt64 >>> (y.1.toInt64.toUInt64 &&& Int64.toUInt64 63)).toInt64) :: x.2) σ
  | 33 => (q_pI st).bind fun x => g (pc + 1) L (.inr (.inl x.1.toInt64) :: x.2) σ
  | 34 => (q_pL st).bind fun x => g (pc + 1) L (.inl x.1.toInt32 :: x.2) σ
  | 35 => (q_pL st).bind fun y => (q_pL y.2).bind fun x => g (pc + 1) L (.inl (lg_cmp x.1 y.1) :: x.2) σ
  | 36 => (q_p1 st).bind fun x => g (pc + 1) L (x.1 :: x.1 :: x.2) σ
  | 37 => (q_p1 st).bind fun x => g (pc + 1) L x.2 σ
  | 38 => (q_p1 st).bind fun x => (q_p1 x.2).bind fun y => g (pc + 1) L (x.1 :: y.1 :: x.1 :: y.1 :: y.2) σ
  | 39 => g (pc + 1) L (.inr (.inr none) :: st) σ
  | 40 => (q_pN st).bind fun x => match x.1 with
    | none => g o.2.2.1 L x.2 σ
    | some _ => g (pc + 3) L x.2 σ
  | 41 => (q_pN st).bind fun x => match x.1 with
    | none => g (pc + 3) L x.2 σ
    | some _ => g o.2.2.1 L x.2 σ
  | 42 => g o.2.2.1 L st σ
  | 43 => (q_pI st).bind fun x => if x.1 = 0 then g o.2.2.1 L x.2 σ else g (pc + 3) L x.2 σ
  | 44 => (q_pI st).bind fun x => if x.1 = 0 then g (pc + 3) L x.2 σ else g o.2.2.1 L x.2 σ
  | 45 => (q_pI st).bind fun x => if x.1 < 0 then g o.2.2.1 L x.2 σ else g (pc + 3) L x.2 σ
  | 46 => (q_pI st).bind fun x => if 0 ≤ x.1 then g o.2.2.1 L x.2 σ else g (pc + 3) L x.2 σ
  | 47 => (q_pI st).bind fun x => if 0 < x.1 then g o.2.2.1 L x.2 σ else g (pc + 3) L x.2 σ
  | 48 => (q_pI st).bind fun x => if x.1 ≤ 0 then g o.2.2.1 L x.2 σ else g (pc + 3) L x.2 σ
  | 49 => (q_pI st).bind fun y => (q_pI y.2).bind fun x => if x.1 = y.1 then g o.2.2.1 L x.2 σ else g (pc + 3) L x.2 σ
  | 50 => (q_pI st).bind fun y => (q_pI y.2).bind fun x => if x.1 = y.1 then g (pc + 3) L x.2 σ else g o.2.2.1 L x.2 σ
  | 51 => (q_pI st).bind fun y => (q_pI y.2).bind fun x => if x.1 < y.1 then g o.2.2.1 L x.2 σ else g (pc + 3) L x.2 σ
  | 52 => (q_pI st).bind fun y => (q_pI y.2).bind fun x => if y.1 ≤ x.1 then g o.2.2.1 L x.2 σ else g (pc + 3) L x.2 σ
  | 53 => (q_pI st).bind fun y => (q_pI y.2).bind fun x => if y.1 < x.1 then g o.2.2.1 L x.2 σ else g (pc + 3) L x.2 σ
  | 54 => (q_pI st).bind fun y => (q_pI y.2).bind fun x => if x.1 ≤ y.1 then g o.2.2.1 L x.2 σ else g (pc + 3) L x.2 σ
  | 55 => (q_pI st).bind fun x => q_sw (fun t => g t L x.2 σ) x.1 o.2.2.1 o.2.2.2.2.tail o.2.2.2.1
  | 56 => (q_pR st).bind fun q => (q_ko q.1.1).bind fun w => bif Nat.beq w.1 (o.2.2.2.2.getD 0 0) then (w.2[o.2.2.2.1]?).bind fun d => g (pc + 3) L (q_fv σ q.1.1 q.1.2 o.2.2.2.1 d :: q.2) σ else none
  | 57 => (q_pI st).bind fun v => (q_pR v.2).bind fun q => (q_ko q.1.1).bind fun w => bif Nat.beq w.1 (o.2.2.2.2.getD 0 0) then (w.2[o.2.2.2.1]?).bind fun d => bif Nat.beq d.1 0 then g (pc + 3) L q.2 (q_sI σ q.1.1 o.2.2.2.1 q.1.2 v.1) else bif Nat.beq d.1 1 then if v.1 &&& 1 = v.1 then g (pc + 3) L q.2 (q_sI σ q.1.1 o.2.2.2.1 q.1.2 v.1) else none else none else none
  | 58 => (q_pI st).bind fun j => (q_pR j.2).bind fun q => (q_ka q.1.1).bind fun w => bif Nat.beq w.1 0 then bif q_in j.1 (q_nn n w.2.2) then g (pc + 1) L (.inl (σ.2.1 q.1.1 q.1.2 j.1.toNatClampNeg) :: q.2) σ else none else none
  | 59 => (q_pI st).bind fun j => (q_pR j.2).bind fun q => (q_ka q.1.1).bind fun w => bif Nat.beq w.1 1 then bif q_in j.1 (q_nn n w.2.2) then g (pc + 1) L (.inr (.inl (σ.2.2.1 q.1.1 q.1.2 j.1.toNatClampNeg)) :: q.2) σ else none else none
  | 60 => (q_pI st).bind fun j => (q_pR j.2).bind fun q => (q_ka q.1.1).bind fun w => bif Nat.blt 2 w.1 then bif q_in j.1 (q_nn n w.2.2) then bif Nat.blt (σ.2.2.2 q.1.1 q.1.2 j.1.toNatClampNeg) (q_ct n w.2.1) then g (pc + 1) L (.inr (.inr (some (w.2.1, σ.2.2.2 q.1.1 q.1.2 j.1.toNatClampNeg))) :: q.2) σ else none else none else none
  | 61 => (q_pI st).bind fun j => (q_pR j.2).bind fun q => (q_ka q.1.1).bind fun w => bif Nat.beq w.1 2 then bif q_in j.1 (q_nn n w.2.2) then g (pc + 1) L (.inl (σ.2.1 q.1.1 q.1.2 j.1.toNatClampNeg) :: q.2) σ else none else none
  | 62 => (q_pI st).bind fun v => (q_pI v.2).bind fun j => (q_pR j.2).bind fun q => (q_ka q.1.1).bind fun w => bif Nat.beq w.1 0 then bif q_in j.1 (q_nn n w.2.2) then g (pc + 1) L q.2 (q_sA σ q.1.1 q.1.2 (upd (σ.2.1 q.1.1 q.1.2) j.1.toNatClampNeg v.1)) else none else none
  | 63 => (q_pL st).bind fun v => (q_pI v.2).bind fun j => (q_pR j.2).bind fun q => (q_ka q.1.1).bind fun w => bif Nat.beq w.1 1 then bif q_in j.1 (q_nn n w.2.2) then g (pc + 1) L q.2 (q_sL σ q.1.1 q.1.2 (vp_updL (σ.2.2.1 q.1.1 q.1.2) j.1.toNatClampNeg v.1)) else none else none
  | 64 => (q_pR st).bind fun v => (q_pI v.2).bind fun j => (q_pR j.2).bind fun q => (q_ka q.1.1).bind fun w => bif Nat.blt 2 w.1 && Nat.beq w.2.1 v.1.1 then bif q_in j.1 (q_nn n w.2.2) then g (pc + 1) L q.2 (q_sP σ q.1.1 q.1.2 (va_up (σ.2.2.2 q.1.1 q.1.2) j.1.toNatClampNeg v.1.2)) else none else none
  | 65 => (q_pI st).bind fun v => (q_pI v.2).bind fun j => (q_pR j.2).bind fun q => (q_ka q.1.1).bind fun w => bif Nat.beq w.1 2 then bif q_in j.1 (q_nn n w.2.2) then if v.1 &&& 1 = v.1 then g (pc + 1) L q.2 (q_sA σ q.1.1 q.1.2 (upd (σ.2.1 q.1.1 q.1.2) j.1.toNatClampNeg v.1)) else none else none else none
  | 66 => (q_pR st).bind fun q => (q_ka q.1.1).bind fun w => g (pc + 1) L (.inl (Int32.ofNat (q_nn n w.2.2)) :: q.2) σ
  | 67 => (q_pop (o.2.2.2.2.getD 0 0) st).bind fun a => (q_pR a.2).bind fun q => (q_ko q.1.1).bind fun w => bif Nat.beq w.1 (o.2.2.2.2.getD 1 0) && (q_rm q.2 && Nat.beq ((a.1.map q_cat).sum) (o.2.2.2.2.getD 2 0)) then (cal o.2.2.2.1 (.inr (.inr (some q.1)) :: a.1) σ).bind (q_af n (fun st' σ' => g (pc + 3) L st' σ') q.2) else none
  | 68 => (q_pop (o.2.2.2.2.getD 0 0) st).bind fun a => bif q_rm a.2 && Nat.beq ((a.1.map q_cat).sum) (o.2.2.2.2.getD 2 0) then (cal o.2.2.2.1 a.1 σ).bind (q_af n (fun st' σ' => g (pc + 3) L st' σ') a.2) else none
  | 69 => (q_pI st).bind fun m => (q_pI m.2).bind fun dp => (q_pR dp.2).bind fun b => (q_pI b.2).bind fun sp => (q_pR sp.2).bind fun a => (q_ka a.1.1).bind fun wa => (q_ka b.1.1).bind fun wb => bif q_cpo sp.1 dp.1 m.1 (q_nn n wa.2.2) (q_nn n wb.2.2) && q_rm a.2 then
      bif Nat.beq wa.1 0 && Nat.beq wb.1 0 then g (pc + 3) L a.2 (q_sA σ b.1.1 b.1.2 (va_cpy (σ.2.1 a.1.1 a.1.2) (σ.2.1 b.1.1 b.1.2) sp.1.toNatClampNeg dp.1.toNatClampNeg m.1.toNatClampNeg))
      else bif Nat.beq wa.1 1 && Nat.beq wb.1 1 then g (pc + 3) L a.2 (q_sL σ b.1.1 b.1.2 (va_cpy (σ.2.2.1 a.1.1 a.1.2) (σ.2.2.1 b.1.1 b.1.2) sp.1.toNatClampNeg dp.1.toNatClampNeg m.1.toNatClampNeg)) else none else none
  | 70 => (q_pL st).bind fun y => (q_pL y.2).bind fun x => bif q_rm x.2 then g (pc + 3) L (.inr (.inl (if y.1 < x.1 then x.1 else y.1)) :: x.2) σ else none
  | 71 => (q_pL st).bind fun y => (q_pL y.2).bind fun x => bif q_rm x.2 then g (pc + 3) L (.inr (.inl (if y.1 < x.1 then y.1 else x.1)) :: x.2) σ else none
  | 72 => (q_pI st).bind fun x => match x.2 with
    | [] => some (.inl (some (.inl x.1)), σ)
    | _ :: _ => none
  | 73 => (q_pI st).bind fun x => match x.2 with
    | [] => if x.1 &&& 1 = x.1 then some (.inl (some (.inl x.1)), σ) else none
    | _ :: _ => none
  | 74 => (q_pL st).bind fun x => match x.2 with
    | [] => some (.inl (some (.inr (.inl x.1))), σ)
    | _ :: _ => none
  | 75 => (q_pN st).bind fun x => match x.2 with
    | [] => some (.inl (some (.inr (.inr x.1))), σ)
    | _ :: _ => none
  | 76 => match st with
    | [] => some (.inl none, σ)
    | _ :: _ => none
  | 77 => match st with
    | [] => some (.inr o.2.2.1, σ)
    | _ :: _ => none
  | _ => none
def q_run (pr : Nat → Nat → Option Op) (n : Nat) : Nat → Nat → Nat → Nat → PL → List PV → J → Option Res
  | _, 0, _, _, _, _, _ => none
  | d, f + 1, k, pc, L, st, σ => match pr k pc with
    | none => none
    | some o => q_stp n (fun pc' L' st' σ' => q_run pr n d f k pc' L' st' σ') (fun k' vs σ' => match d with
      | 0 => none
      | d' + 1 => q_run pr n d' f k' 0 (q_args 0 vs) [] σ') pc o L st σ
/-- the exceptions: their classes, the places in JobBoard's pool of class and of constructor -/
def q_xn (k : Nat) : String := match k with
  | 1 => "java/lang/IndexOutOfBoundsException"
  | 2 => "java/lang/IllegalStateException"
  | 3 => "java/lang/IllegalArgumentException"
  | _ => "java/lang/UnsupportedOperationException"
def q_xc (k : Nat) : Nat := match k with
  | 1 => 191
  | 2 => 253
  | 3 => 59
  | _ => 72
def q_xi (k : Nat) : Nat := match k with
  | 1 => 193
  | 2 => 255
  | 3 => 61
  | _ => 74
end
section
/-! The interpreter's state in the machine's heap: cells by names, frames, what an instruction must be. Ours. -/
theorem gt_good : ∀ w ∈ gt, goodWord w = true := fun _ h => (List.mem_filter.mp h).2
theorem gi_1 {cw : Cond} (hc : cw ∈ gt) : GoodIn gt (cw :: gt) := fun w h => by
  have hw : w ∈ gt := by
    rcases List.mem_cons.mp h with rfl | h
    · exact hc
    · exact h
  exact ⟨hw, good_of_word (gt_good w hw)⟩
theorem gi_V {own C : String} {idx : Nat} {y : MethodName} {cw : Cond} (h1 : Cond.methodLink own idx y ∈ gt) (h2 : Cond.instanceMethod y ∈ gt) (h3 : Cond.selects C y y ∈ gt) (h4 : Cond.initialized C ∈ gt) (hc : cw ∈ gt) : GoodIn gt (wsV own idx C y (cw :: gt)) := fun w h => by
  have hw : w ∈ gt := by
    unfold wsV at h
    rcases List.mem_append.mp h with h | h
    · simp only [List.mem_cons, List.not_mem_nil, or_false] at h
      rcases h with rfl | rfl | rfl | rfl
      · exact h1
      · exact h2
      · exact h3
      · exact h4
    · exact (gi_1 hc w h).1
  exact ⟨hw, good_of_word (gt_good w hw)⟩
theorem gi_S {own : String} {idx : Nat} {y : MethodName} {cw : Cond} (h1 : Cond.methodLink own idx y ∈ gt) (h2 : Cond.static y ∈ gt) (h4 : Cond.initialized own ∈ gt) (hc : cw ∈ gt) : GoodIn gt (wsS own idx y (cw :: gt)) := fun w h => by
  have hw : w ∈ gt := by
    unfold wsS at h
    rcases List.mem_append.mp h with h | h
    · simp only [List.mem_cons, List.not_mem_nil, or_false] at h
      rcases h with rfl | rfl | rfl
      · exact h1
      · exact h2
      · exact h4
    · exact (gi_1 hc w h).1
  exact ⟨hw, good_of_word (gt_good w hw)⟩
-- names and their cells
def hup (cn : Nat → Nat → va_E) (k i : Nat) (e : va_E) : Nat → Nat → va_E := fun k' i' => if k' = k ∧ i' = i then e else cn k' i'
def wl (ids : List (Nat × Nat)) (ad : Nat → Nat → Nat) (cn : Nat → Nat → va_E) : va_W := ids.map (fun x => (ad x.1 x.2, cn x.1 x.2))
theorem wl_at {ids : List (Nat × Nat)} {ad : Nat → Nat → Nat} {cn : Nat → Nat → va_E} {k i : Nat} (h : (k, i) ∈ ids) : ∃ q : Nat, ids[q]? = some (k, i) ∧ (wl ids ad cn)[q]? = some (ad k i, cn k i) := by
  obtain ⟨q, hq⟩ := List.getElem?_of_mem h
  exact ⟨q, hq, by simp only [wl, List.getElem?_map, hq]; rfl⟩
theorem wl_set {A : Nat → Prop} {ids : List (Nat × Nat)} {ad : Nat → Nat → Nat} {cn : Nat → Nat → va_E} {k i q : Nat} {e : va_E} (hI : va_D A (wl ids ad cn)) (hq : ids[q]? = some (k, i)) : (wl ids ad cn).set q (ad k i, e) = wl ids ad (hup cn k i e) := by
  have hql : (wl ids ad cn)[q]? = some (ad k i, cn k i) := by simp only [wl, List.getElem?_map, hq]; rfl
  have hlen : q < (wl ids ad cn).length := (List.getElem?_eq_some_iff.mp hql).1
  apply List.ext_getElem?
  intro j
  by_cases hj : j = q
  · subst hj
    rw [List.getElem?_set_self hlen]
    simp [wl, List.getElem?_map, hq, hup]
  · rw [List.getElem?_set_ne (Ne.symm hj)]
    simp only [wl, List.getElem?_map]
    cases hx : ids[j]? with
    | none => rfl
    | some x =>
      have hne : ¬ (x.1 = k ∧ x.2 = i) := by
        rintro ⟨h1, h2⟩
        apply hj
        refine hI.1 j q (ad x.1 x.2, cn x.1 x.2) (ad k i, cn k i) (by simp only [wl, List.getElem?_map, hx]; rfl) hql ?_
        show ad x.1 x.2 = ad k i
        rw [h1, h2]
      simp [hup, hne]
def idj (n : Nat) : List (Nat × Nat) := (List.range q_ctt.length).flatMap fun k => (List.range (q_ct n k)).map fun i => (k, i)
theorem idj_in {n k i : Nat} (hi : i < q_ct n k) : (k, i) ∈ idj n := by
  refine List.mem_flatMap.mpr ⟨k, List.mem_range.mpr ?_, List.mem_map.mpr ⟨i, List.mem_range.mpr hi, rfl⟩⟩
  apply Nat.lt_of_not_le
  intro h
  have e : q_ct n k = 0 := by
    unfold q_ct
    rw [List.getD_eq_getElem?_getD, List.getElem?_eq_none h]
    rfl
  omega
theorem idj_lt {n k i : Nat} (h : (k, i) ∈ idj n) : i < q_ct n k := by
  obtain ⟨k', -, h⟩ := List.mem_flatMap.mp h
  obtain ⟨i', hi, he⟩ := List.mem_map.mp h
  cases he
  exact List.mem_range.mp hi
theorem q_ok_in {n k i : Nat} (h : q_ok n (.inr (.inr (some (k, i)))) = true) (hk : k ≠ 63) : (k, i) ∈ idj n := by
  replace h : (Nat.beq k 63 || Nat.blt i (q_ct n k)) = true := h
  rw [Bool.or_eq_true] at h
  rcases h with h | h
  · exact absurd (Nat.eq_of_beq_eq_true h) hk
  · exact idj_in (Nat.blt_eq.mp h)
theorem q_ok_b {n k i : Nat} (h : Nat.blt i (q_ct n k) = true) : q_ok n (.inr (.inr (some (k, i)))) = true := by
  show (Nat.beq k 63 || Nat.blt i (q_ct n k)) = true
  rw [h, Bool.or_true]
-- what the cells hold
def q_fs (ad : Nat → Nat → Nat) (σ : J) (k i : Nat) : Nat → List (Nat × Nat × Nat) → List Value
  | _, [] => []
  | f, d :: r => q_tv ad (q_fv σ k i f d) :: q_fs ad σ k i (f + 1) r
theorem q_fs_len (ad : Nat → Nat → Nat) (σ : J) (k i : Nat) (l : List (Nat × Nat × Nat)) : ∀ f, (q_fs ad σ k i f l).length = l.length := by
  induction l with
  | nil => intro f; rfl
  | cons d r ih => intro f; simp [q_fs, ih]
theorem q_fs_at (ad : Nat → Nat → Nat) (σ : J) (k i : Nat) (l : List (Nat × Nat × Nat)) : ∀ (f j : Nat), (q_fs ad σ k i f l)[j]? = (l[j]?).map (fun d => q_tv ad (q_fv σ k i (f + j) d)) := by
  induction l with
  | nil => intro f j; simp [q_fs]
  | cons d r ih =>
    intro f j
    cases j with
    | zero => simp [q_fs]
    | succ j =>
      simp only [q_fs, List.getElem?_cons_succ, ih]
      rw [show f + 1 + j = f + (j + 1) by omega]
def q_ar (ad : Nat → Nat → Nat) (σ : J) (t ek k i : Nat) : (Nat → Int32) ⊕ (Nat → Int64) ⊕ (Nat → UInt32) ⊕ (Nat → UInt64) ⊕ (Nat → Option Nat) := match t with
  | 0 => .inl (σ.2.1 k i)
  | 1 => .inr (.inl (σ.2.2.1 k i))
  | 2 => .inl (σ.2.1 k i)
  | _ => .inr (.inr (.inr (.inr (fun j => some (ad ek (σ.2.2.2 k i j))))))
def cj (cy : Nat → ClassId) (ad : Nat → Nat → Nat) (n : Nat) (σ : J) (k i : Nat) : va_E := match q_ko k with
  | some w => .inr (w.1, q_fs ad σ k i 0 w.2)
  | none => match q_ka k with
    | some w => .inl (cy w.1, q_nn n w.2.2, q_ar ad σ w.1 w.2.1 k i)
    | none => .inl (cy 0, 0, .inl (fun _ => 0))
theorem cj_o {cy : Nat → ClassId} {ad : Nat → Nat → Nat} {n : Nat} {σ : J} {k i : Nat} {w : Nat × List (Nat × Nat × Nat)} (h : q_ko k = some w) : cj cy ad n σ k i = .inr (w.1, q_fs ad σ k i 0 w.2) := by
  unfold cj
  rw [h]
theorem q_apart : ∀ k, k < q_kot.length → (q_kot.getD k none).isSome = true → q_kat.getD k none = none := by decide
theorem q_ko_lt {k : Nat} {w : Nat × List (Nat × Nat × Nat)} (h : q_ko k = some w) : k < q_kot.length := by
  apply Nat.lt_of_not_le
  intro hk
  unfold q_ko at h
  rw [List.getD_eq_getElem?_getD, List.getElem?_eq_none hk] at h
  cases h
theorem q_ko_ne {k : Nat} {w : Nat × List (Nat × Nat × Nat)} (h : q_ko k = some w) : k ≠ 63 := fun e => by
  have h1 := q_ko_lt h
  rw [e] at h1
  exact absurd h1 (by decide)
theorem q_ka_ne {k : Nat} {w : Nat × Nat × Nat × Nat} (h : q_ka k = some w) : k ≠ 63 := fun e => by
  rw [e, show q_ka 63 = none from rfl] at h
  cases h
theorem q_ka_ko {k : Nat} {w : Nat × Nat × Nat × Nat} (h : q_ka k = some w) : q_ko k = none := by
  cases hk : q_ko k with
  | none => rfl
  | some v =>
    have h1 := q_apart k (q_ko_lt hk) (by show (q_ko k).isSome = true; rw [hk]; rfl)
    rw [show q_ka k = q_kat.getD k none from rfl, h1] at h
    cases h
theorem cj_a {cy : Nat → ClassId} {ad : Nat → Nat → Nat} {n : Nat} {σ : J} {k i : Nat} {w : Nat × Nat × Nat × Nat} (h : q_ka k = some w) : cj cy ad n σ k i = .inl (cy w.1, q_nn n w.2.2, q_ar ad σ w.1 w.2.1 k i) := by
  unfold cj
  rw [q_ka_ko h, h]
abbrev WJ (D : va_G) (cy : Nat → ClassId) (ad : Nat → Nat → Nat) (n : Nat) (σ : J) (H : Heap) : Prop := va_P D vcl (wl (idj n) ad (cj cy ad n σ)) H
theorem q_fs_eq {ad : Nat → Nat → Nat} {σ τ : J} {k i : Nat} (h0 : ∀ f, σ.1 k f i = τ.1 k f i) (l : List (Nat × Nat × Nat)) : ∀ f, q_fs ad σ k i f l = q_fs ad τ k i f l := by
  induction l with
  | nil => intro f; rfl
  | cons d r ih =>
    intro f
    show q_tv ad (q_fv σ k i f d) :: q_fs ad σ k i (f + 1) r = q_tv ad (q_fv τ k i f d) :: q_fs ad τ k i (f + 1) r
    rw [ih, q_fv, q_fv, h0]
theorem cj_eq {cy : Nat → ClassId} {ad : Nat → Nat → Nat} {n : Nat} {σ τ : J} {k i : Nat} (h0 : ∀ f, σ.1 k f i = τ.1 k f i) (h1 : σ.2.1 k i = τ.2.1 k i) (h2 : σ.2.2.1 k i = τ.2.2.1 k i) (h3 : σ.2.2.2 k i = τ.2.2.2 k i) : cj cy ad n σ k i = cj cy ad n τ k i := by
  unfold cj
  cases q_ko k with
  | some w => show (Sum.inr (w.1, _) : va_E) = Sum.inr (w.1, _); rw [q_fs_eq h0]
  | none =>
    cases q_ka k with
    | none => rfl
    | some w =>
      show (Sum.inl (cy w.1, q_nn n w.2.2, _) : va_E) = Sum.inl (cy w.1, q_nn n w.2.2, _)
      unfold q_ar
      rw [h1, h2, h3]
/-- the state behind a store into a field -/
theorem cj_sI {cy : Nat → ClassId} {ad : Nat → Nat → Nat} {n : Nat} {σ : J} {k i f : Nat} {v : Int32} {w : Nat × List (Nat × Nat × Nat)} {d : Nat × Nat × Nat} (h : q_ko k = some w) (hd : w.2[f]? = some d) (h2 : d.1 < 2) : hup (cj cy ad n σ) k i (.inr (w.1, (q_fs ad σ k i 0 w.2).set f (.int v))) = cj cy ad n (q_sI σ k f i v) := by
  funext k' i'
  by_cases hk : k' = k ∧ i' = i
  · obtain ⟨rfl, rfl⟩ := hk
    rw [show hup (cj cy ad n σ) k' i' (.inr (w.1, (q_fs ad σ k' i' 0 w.2).set f (.int v))) k' i' = .inr (w.1, (q_fs ad σ k' i' 0 w.2).set f (.int v)) by simp [hup], cj_o h]
    congr 2
    apply List.ext_getElem?
    intro j
    have hl : f < (q_fs ad σ k' i' 0 w.2).length := by
      rw [q_fs_len]
      exact (List.getElem?_eq_some_iff.mp hd).1
    by_cases hj : j = f
    · subst hj
      rw [List.getElem?_set_self hl, q_fs_at, hd]
      simp [q_fv, q_sI, q_tv, Nat.blt_eq.mpr h2]
    · rw [List.getElem?_set_ne (Ne.symm hj), q_fs_at, q_fs_at]
      cases hx : w.2[j]? with
      | none => rfl
      | some d' => simp [q_fv, q_sI, hj]
  · rw [show hup (cj cy ad n σ) k i (.inr (w.1, (q_fs ad σ k i 0 w.2).set f (.int v))) k' i' = cj cy ad n σ k' i' by simp [hup, hk]]
    exact cj_eq (fun j => (if_neg fun q => hk ⟨q.1, q.2.2⟩).symm) rfl rfl rfl
theorem cj_sA {cy : Nat → ClassId} {ad : Nat → Nat → Nat} {n : Nat} {σ : J} {k i : Nat} {g : Nat → Int32} {w : Nat × Nat × Nat × Nat} (h : q_ka k = some w) (ht : w.1 = 0 ∨ w.1 = 2) : hup (cj cy ad n σ) k i (.inl (cy w.1, q_nn n w.2.2, .inl g)) = cj cy ad n (q_sA σ k i g) := by
  funext k' i'
  by_cases hk : k' = k ∧ i' = i
  · obtain ⟨rfl, rfl⟩ := hk
    rw [show hup (cj cy ad n σ) k' i' (.inl (cy w.1, q_nn n w.2.2, .inl g)) k' i' = .inl (cy w.1, q_nn n w.2.2, .inl g) by simp [hup], cj_a h]
    rcases ht with ht | ht <;> simp [ht, q_ar, q_sA]
  · rw [show hup (cj cy ad n σ) k i (.inl (cy w.1, q_nn n w.2.2, .inl g)) k' i' = cj cy ad n σ k' i' by simp [hup, hk]]
    exact cj_eq (fun _ => rfl) (if_neg hk).symm rfl rfl
theorem cj_sL {cy : Nat → ClassId} {ad : Nat → Nat → Nat} {n : Nat} {σ : J} {k i : Nat} {g : Nat → Int64} {w : Nat × Nat × Nat × Nat} (h : q_ka k = some w) (ht : w.1 = 1) : hup (cj cy ad n σ) k i (.inl (cy w.1, q_nn n w.2.2, .inr (.inl g))) = cj cy ad n (q_sL σ k i g) := by
  funext k' i'
  by_cases hk : k' = k ∧ i' = i
  · obtain ⟨rfl, rfl⟩ := hk
    rw [show hup (cj cy ad n σ) k' i' (.inl (cy w.1, q_nn n w.2.2, .inr (.inl g))) k' i' = .inl (cy w.1, q_nn n w.2.2, .inr (.inl g)) by simp [hup], cj_a h]
    simp [ht, q_ar, q_sL]
  · rw [show hup (cj cy ad n σ) k i (.inl (cy w.1, q_nn n w.2.2, .inr (.inl g))) k' i' = cj cy ad n σ k' i' by simp [hup, hk]]
    exact cj_eq (fun _ => rfl) rfl (if_neg hk).symm rfl
theorem q_ar_q {ad : Nat → Nat → Nat} {σ : J} {t ek k i : Nat} (h : 2 < t) : q_ar ad σ t ek k i = .inr (.inr (.inr (.inr (fun j => some (ad ek (σ.2.2.2 k i j)))))) := by
  match t, h with
  | _ + 3, _ => rfl
theorem cj_sP {cy : Nat → ClassId} {ad : Nat → Nat → Nat} {n : Nat} {σ : J} {k i : Nat} {g : Nat → Nat} {w : Nat × Nat × Nat × Nat} (h : q_ka k = some w) (ht : 2 < w.1) : hup (cj cy ad n σ) k i (.inl (cy w.1, q_nn n w.2.2, .inr (.inr (.inr (.inr (fun j => some (ad w.2.1 (g j)))))))) = cj cy ad n (q_sP σ k i g) := by
  funext k' i'
  by_cases hk : k' = k ∧ i' = i
  · obtain ⟨rfl, rfl⟩ := hk
    rw [show hup (cj cy ad n σ) k' i' (.inl (cy w.1, q_nn n w.2.2, .inr (.inr (.inr (.inr (fun j => some (ad w.2.1 (g j)))))))) k' i' = .inl (cy w.1, q_nn n w.2.2, .inr (.inr (.inr (.inr (fun j => some (ad w.2.1 (g j))))))) by simp [hup], cj_a h, q_ar_q ht]
    simp [q_sP]
  · rw [show hup (cj cy ad n σ) k i (.inl (cy w.1, q_nn n w.2.2, .inr (.inr (.inr (.inr (fun j => some (ad w.2.1 (g j)))))))) k' i' = cj cy ad n σ k' i' by simp [hup, hk]]
    exact cj_eq (fun _ => rfl) rfl rfl (if_neg hk).symm
end
section
/-! What an instruction of the tables must be, checked by program; facts of the tables of kinds. Ours. -/
def q_wd (pl : Nat) (w : Cond) : Bool := decide (lw_tbl[pl]? = some w) && goodWord w
theorem q_wd_in {pl : Nat} {w : Cond} (h : q_wd pl w = true) : w ∈ gt := by
  unfold q_wd at h
  rw [Bool.and_eq_true] at h
  exact gt_of (List.mem_of_getElem? (of_decide_eq_true h.1)) h.2
def q_dc (cc : ByteArray) (pc : Nat) (i : Instr) (len : Nat) : Bool := decide (decode cc pc = .ok (i, len))
theorem q_dd {cc : ByteArray} {pc : Nat} {i : Instr} {len : Nat} (h : q_dc cc pc i len = true) : decode cc pc = .ok (i, len) := of_decide_eq_true h
def q_cl (ci : Nat) : vw_C := vcl.getD ci ("", fun _ => ("", "", "", false), 0)
def q_ny (y : MethodName) (C : String) (na : Nat) : Bool := decide (y.cls = C ∧ y.cls ≠ "java/lang/invoke/MethodHandle" ∧ y.cls ≠ "java/lang/invoke/VarHandle" ∧ (parseMethodDescriptor y.desc).map (fun d => d.parameters.length) = some na)
def q_tg (pc : Nat) (x : Int) (a : Nat) : Bool := decide ((pc : Int) + x = (a : Int))
def q_okB (mt : Nat → MRow) (k pc : Nat) (o : Op) : Bool := match o.1 with
  | 0 => q_dc (mt k).2.1 pc (.iconst o.2.1) 1
  | 1 => q_dc (mt k).2.1 pc (.bipush o.2.1) 2 && decide ((Int8.ofInt o.2.1).toInt32 = Int32.ofInt o.2.1)
  | 2 => q_dc (mt k).2.1 pc (.sipush o.2.1) 3 && decide ((Int16.ofInt o.2.1).toInt32 = Int32.ofInt o.2.1)
  | 3 => q_dc (mt k).2.1 pc (.lconst (Fin.ofNat 2 o.2.2.1)) 1 && decide (Int64.ofNat ((Fin.ofNat 2 o.2.2.1 : Fin 2) : Nat) = Int64.ofInt o.2.1)
  | 4 => q_dc (mt k).2.1 pc (.ldc2_w o.2.2.1) 3 && q_wd o.2.2.2.1 (.constantLong (mt k).1.cls o.2.2.1 (Int64.ofInt o.2.1))
  | 6 => q_dc (mt k).2.1 pc (.iload_n (Fin.ofNat 4 o.2.2.1)) 1 && decide (((Fin.ofNat 4 o.2.2.1 : Fin 4) : Nat) = o.2.2.1) && Nat.blt o.2.2.1 (mt k).2.2.1
  | 7 => q_dc (mt k).2.1 pc (.iload o.2.2.1) 2 && Nat.blt o.2.2.1 (mt k).2.2.1
  | 8 => q_dc (mt k).2.1 pc (.lload_n (Fin.ofNat 4 o.2.2.1)) 1 && decide (((Fin.ofNat 4 o.2.2.1 : Fin 4) : Nat) = o.2.2.1) && Nat.blt o.2.2.1 (mt k).2.2.1
  | 9 => q_dc (mt k).2.1 pc (.lload o.2.2.1) 2 && Nat.blt o.2.2.1 (mt k).2.2.1
  | 10 => q_dc (mt k).2.1 pc (.aload_n (Fin.ofNat 4 o.2.2.1)) 1 && decide (((Fin.ofNat 4 o.2.2.1 : Fin 4) : Nat) = o.2.2.1) && Nat.blt o.2.2.1 (mt k).2.2.1
  | 11 => q_dc (mt k).2.1 pc (.aload o.2.2.1) 2 && Nat.blt o.2.2.1 (mt k).2.2.1
  | 12 => q_dc (mt k).2.1 pc (.istore_n (Fin.ofNat 4 o.2.2.1)) 1 && decide (((Fin.ofNat 4 o.2.2.1 : Fin 4) : Nat) = o.2.2.1) && Nat.blt o.2.2.1 (mt k).2.2.1
  | 13 => q_dc (mt k).2.1 pc (.istore o.2.2.1) 2 && Nat.blt o.2.2.1 (mt k).2.2.1
  | 14 => q_dc (mt k).2.1 pc (.lstore_n (Fin.ofNat 4 o.2.2.1)) 1 && decide (((Fin.ofNat 4 o.2.2.1 : Fin 4) : Nat) = o.2.2.1) && Nat.blt (o.2.2.1 + 1) (mt k).2.2.1
  | 15 => q_dc (mt k).2.1 pc (.lstore o.2.2.1) 2 && Nat.blt (o.2.2.1 + 1) (mt k).2.2.1
  | 16 => q_dc (mt k).2.1 pc (.astore_n (Fin.ofNat 4 o.2.2.1)) 1 && decide (((Fin.ofNat 4 o.2.2.1 : Fin 4) : Nat) = o.2.2.1) && Nat.blt o.2.2.1 (mt k).2.2.1
  | 17 => q_dc (mt k).2.1 pc (.astore o.2.2.1) 2 && Nat.blt o.2.2.1 (mt k).2.2.1
  | 18 => q_dc (mt k).2.1 pc (.iinc o.2.2.1 o.2.1) 3 && Nat.blt o.2.2.1 (mt k).2.2.1
  | 19 => q_dc (mt k).2.1 pc .iadd 1
  | 20 => q_dc (mt k).2.1 pc .isub 1
  | 21 => q_dc (mt k).2.1 pc .imul 1
  | 22 => q_dc (mt k).2.1 pc .irem 1
  | 23 => q_dc (mt k).2.1 pc .iand 1
  | 24 => q_dc (mt k).2.1 pc .ior 1
  | 25 => q_dc (mt k).2.1 pc .ishl 1
  | 26 => q_dc (mt k).2.1 pc .ishr 1
  | 27 => q_dc (mt k).2.1 pc .ladd 1
  | 28 => q_dc (mt k).2.1 pc .land 1
  | 29 => q_dc (mt k).2.1 pc .lor 1
  | 30 => q_dc (mt k).2.1 pc .lshl 1
  | 31 => q_dc (mt k).2.1 pc .lshr 1
  | 32 => q_dc (mt k).2.1 pc .lushr 1
  | 33 => q_dc (mt k).2.1 pc .i2l 1
  | 34 => q_dc (mt k).2.1 pc .l2i 1
  | 35 => q_dc (mt k).2.1 pc .lcmp 1
  | 36 => q_dc (mt k).2.1 pc .dup 1
  | 37 => q_dc (mt k).2.1 pc .pop 1
  | 38 => q_dc (mt k).2.1 pc .dup2 1
  | 39 => q_dc (mt k).2.1 pc .aconst_null 1
  | 40 => q_dc (mt k).2.1 pc (.ifnull o.2.1) 3 && q_tg pc o.2.1 o.2.2.1
  | 41 => q_dc (mt k).2.1 pc (.ifnonnull o.2.1) 3 && q_tg pc o.2.1 o.2.2.1
  | 42 => q_dc (mt k).2.1 pc (.goto o.2.1) 3 && q_tg pc o.2.1 o.2.2.1
  | 43 => q_dc (mt k).2.1 pc (.ifCond .eq o.2.1) 3 && q_tg pc o.2.1 o.2.2.1
  | 44 => q_dc (mt k).2.1 pc (.ifCond .ne o.2.1) 3 && q_tg pc o.2.1 o.2.2.1
  | 45 => q_dc (mt k).2.1 pc (.ifCond .lt o.2.1) 3 && q_tg pc o.2.1 o.2.2.1
  | 46 => q_dc (mt k).2.1 pc (.ifCond .ge o.2.1) 3 && q_tg pc o.2.1 o.2.2.1
  | 47 => q_dc (mt k).2.1 pc (.ifCond .gt o.2.1) 3 && q_tg pc o.2.1 o.2.2.1
  | 48 => q_dc (mt k).2.1 pc (.ifCond .le o.2.1) 3 && q_tg pc o.2.1 o.2.2.1
  | 49 => q_dc (mt k).2.1 pc (.if_icmp .eq o.2.1) 3 && q_tg pc o.2.1 o.2.2.1
  | 50 => q_dc (mt k).2.1 pc (.if_icmp .ne o.2.1) 3 && q_tg pc o.2.1 o.2.2.1
  | 51 => q_dc (mt k).2.1 pc (.if_icmp .lt o.2.1) 3 && q_tg pc o.2.1 o.2.2.1
  | 52 => q_dc (mt k).2.1 pc (.if_icmp .ge o.2.1) 3 && q_tg pc o.2.1 o.2.2.1
  | 53 => q_dc (mt k).2.1 pc (.if_icmp .gt o.2.1) 3 && q_tg pc o.2.1 o.2.2.1
  | 54 => q_dc (mt k).2.1 pc (.if_icmp .le o.2.1) 3 && q_tg pc o.2.1 o.2.2.1
  | 55 => q_dc (mt k).2.1 pc (.tableswitch o.2.1 (o.2.2.1 : Int) ((o.2.2.1 + o.2.2.2.2.tail.length : Int) - 1) ((o.2.2.2.2.tail.map fun (t : Nat) => (t : Int) - (pc : Int)).toArray)) (o.2.2.2.2.getD 0 0) && q_tg pc o.2.1 o.2.2.2.1 && Nat.blt (o.2.2.1 + o.2.2.2.2.tail.length) 1000
  | 56 => q_dc (mt k).2.1 pc (.getfield o.2.2.1) 3 && q_wd (o.2.2.2.2.getD 1 0) (.fieldLink (mt k).1.cls o.2.2.1 ((q_cl (o.2.2.2.2.getD 0 0)).2.1 o.2.2.2.1).1 ((q_cl (o.2.2.2.2.getD 0 0)).2.1 o.2.2.2.1).2.1 ((q_cl (o.2.2.2.2.getD 0 0)).2.1 o.2.2.2.1).2.2.1)
  | 57 => q_dc (mt k).2.1 pc (.putfield o.2.2.1) 3 && q_wd (o.2.2.2.2.getD 1 0) (.fieldLink (mt k).1.cls o.2.2.1 ((q_cl (o.2.2.2.2.getD 0 0)).2.1 o.2.2.2.1).1 ((q_cl (o.2.2.2.2.getD 0 0)).2.1 o.2.2.2.1).2.1 ((q_cl (o.2.2.2.2.getD 0 0)).2.1 o.2.2.2.1).2.2.1) && !((q_cl (o.2.2.2.2.getD 0 0)).2.1 o.2.2.2.1).2.2.2
  | 58 => q_dc (mt k).2.1 pc .iaload 1
  | 59 => q_dc (mt k).2.1 pc .laload 1
  | 60 => q_dc (mt k).2.1 pc .aaload 1
  | 61 => q_dc (mt k).2.1 pc .baload 1
  | 62 => q_dc (mt k).2.1 pc .iastore 1
  | 63 => q_dc (mt k).2.1 pc .lastore 1
  | 64 => q_dc (mt k).2.1 pc .aastore 1
  | 65 => q_dc (mt k).2.1 pc .bastore 1
  | 66 => q_dc (mt k).2.1 pc .arraylength 1
  | 67 => q_dc (mt k).2.1 pc (.invokevirtual o.2.2.1) 3 && q_wd (o.2.2.2.2.getD 3 0) (.methodLink (mt k).1.cls o.2.2.1 (mt o.2.2.2.1).1) && q_wd (o.2.2.2.2.getD 4 0) (.instanceMethod (mt o.2.2.2.1).1) && q_wd (o.2.2.2.2.getD 5 0) (.selects (q_cl (o.2.2.2.2.getD 1 0)).1 (mt o.2.2.2.1).1 (mt o.2.2.2.1).1) && q_wd (o.2.2.2.2.getD 6 0) (.initialized (q_cl (o.2.2.2.2.getD 1 0)).1) && q_wd (o.2.2.2.2.getD 7 0) (.code (mt o.2.2.2.1).1 (mt o.2.2.2.1).2.1 (mt o.2.2.2.1).2.2.1 (mt o.2.2.2.1).2.2.2) && q_ny (mt o.2.2.2.1).1 (q_cl (o.2.2.2.2.getD 1 0)).1 (o.2.2.2.2.getD 0 0) && Nat.ble (mt o.2.2.2.1).2.2.1 30 && Nat.ble (o.2.2.2.2.getD 2 0 + 1) (mt o.2.2.2.1).2.2.1
  | 68 => q_dc (mt k).2.1 pc (.invokestatic o.2.2.1) 3 && q_wd (o.2.2.2.2.getD 3 0) (.methodLink (mt k).1.cls o.2.2.1 (mt o.2.2.2.1).1) && q_wd (o.2.2.2.2.getD 4 0) (.static (mt o.2.2.2.1).1) && q_wd (o.2.2.2.2.getD 6 0) (.initialized (mt o.2.2.2.1).1.cls) && q_wd (o.2.2.2.2.getD 7 0) (.code (mt o.2.2.2.1).1 (mt o.2.2.2.1).2.1 (mt o.2.2.2.1).2.2.1 (mt o.2.2.2.1).2.2.2) && q_ny (mt o.2.2.2.1).1 (mt o.2.2.2.1).1.cls (o.2.2.2.2.getD 0 0) && Nat.ble (mt o.2.2.2.1).2.2.1 30 && Nat.ble (o.2.2.2.2.getD 2 0) (mt o.2.2.2.1).2.2.1
  | 69 => q_dc (mt k).2.1 pc (.invokestatic o.2.2.1) 3 && q_wd (o.2.2.2.2.getD 0 0) (.methodLink (mt k).1.cls o.2.2.1 arraycopyName) && q_wd (o.2.2.2.2.getD 1 0) (.native arraycopyName) && q_wd (o.2.2.2.2.getD 2 0) (.static arraycopyName) && q_wd (o.2.2.2.2.getD 3 0) (.initialized "java/lang/System")
  | 70 => q_dc (mt k).2.1 pc (.invokestatic o.2.2.1) 3 && q_wd (o.2.2.2.2.getD 0 0) (.methodLink (mt k).1.cls o.2.2.1 Lib.MathLoose.max_long.x) && q_wd (o.2.2.2.2.getD 1 0) (.static Lib.MathLoose.max_long.x) && q_wd (o.2.2.2.2.getD 2 0) (.initialized "java/lang/Math") && q_wd (o.2.2.2.2.getD 3 0) (.code Lib.MathLoose.max_long.x Lib.MathLoose.max_long.code 4 (some .long))
  | 71 => q_dc (mt k).2.1 pc (.invokestatic o.2.2.1) 3 && q_wd (o.2.2.2.2.getD 0 0) (.methodLink (mt k).1.cls o.2.2.1 Lib.MathLoose.min_long.x) && q_wd (o.2.2.2.2.getD 1 0) (.static Lib.MathLoose.min_long.x) && q_wd (o.2.2.2.2.getD 2 0) (.initialized "java/lang/Math") && q_wd (o.2.2.2.2.getD 3 0) (.code Lib.MathLoose.min_long.x Lib.MathLoose.min_long.code 4 (some .long))
  | 72 => q_dc (mt k).2.1 pc .ireturn 1 && decide ((mt k).2.2.2 = some .int)
  | 73 => q_dc (mt k).2.1 pc .ireturn 1 && decide ((mt k).2.2.2 = some .boolean)
  | 74 => q_dc (mt k).2.1 pc .lreturn 1 && decide ((mt k).2.2.2 = some .long)
  | 75 => q_dc (mt k).2.1 pc .areturn 1 && (match (mt k).2.2.2 with
    | some (.object _) => true
    | _ => false)
  | 76 => q_dc (mt k).2.1 pc .return_ 1 && decide ((mt k).2.2.2 = none)
  | 77 => decide ((mt k).1.cls = "JobBoard") && q_dc (mt k).2.1 pc (.new (q_xc o.2.2.1)) 3 && q_dc (mt k).2.1 (pc + 3) .dup 1 && q_dc (mt k).2.1 (pc + 4) (.invokespecial (q_xi o.2.2.1)) 3 && q_dc (mt k).2.1 (pc + 7) .athrow 1 && Nat.ble 1 o.2.2.1 && Nat.ble o.2.2.1 4
  | _ => true
-- facts of the tables of kinds
def q_clB (k : Nat) (d : Nat × Nat × Nat) : Bool := Nat.blt d.1 2 || (match d.2.2 with
  | 0 => Nat.ble 1 (q_ctt.getD d.2.1 (0, 0)).1
  | 1 => Nat.ble (q_ctt.getD k (0, 0)).1 (q_ctt.getD d.2.1 (0, 0)).1 && Nat.ble (q_ctt.getD k (0, 0)).2 (q_ctt.getD d.2.1 (0, 0)).2
  | 2 => Nat.ble (20 + (q_ctt.getD k (0, 0)).1) (q_ctt.getD d.2.1 (0, 0)).1 && Nat.ble (q_ctt.getD k (0, 0)).2 (q_ctt.getD d.2.1 (0, 0)).2
  | _ => Nat.ble ((q_ctt.getD k (0, 0)).1 + 1) (q_ctt.getD d.2.1 (0, 0)).1 && Nat.ble (q_ctt.getD k (0, 0)).2 (q_ctt.getD d.2.1 (0, 0)).2)
def q_kB (k : Nat) : Bool := match q_ko k with
  | none => true
  | some w => Nat.blt w.1 vcl.length && Nat.beq w.2.length (q_cl w.1).2.2 && w.2.all (q_clB k) && (List.range w.2.length).all (fun f => match w.2[f]? with
    | some (0, _) => decide (((q_cl w.1).2.1 f).2.2.1 = "I")
    | some (1, _) => decide (((q_cl w.1).2.1 f).2.2.1 = "Z")
    | _ => true)
theorem q_kB_all : (List.range q_kot.length).all q_kB = true := by decide +kernel
theorem q_kB_at {k : Nat} {w : Nat × List (Nat × Nat × Nat)} (h : q_ko k = some w) : w.1 < vcl.length ∧ w.2.length = (q_cl w.1).2.2 ∧ (∀ d ∈ w.2, q_clB k d = true) ∧ ∀ (f : Nat) (d : Nat × Nat × Nat), w.2[f]? = some d → (d.1 = 0 → ((q_cl w.1).2.1 f).2.2.1 = "I") ∧ (d.1 = 1 → ((q_cl w.1).2.1 f).2.2.1 = "Z") := by
  have h1 := List.all_eq_true.mp q_kB_all k (List.mem_range.mpr (q_ko_lt h))
  unfold q_kB at h1
  rw [h] at h1
  simp only [Bool.and_eq_true] at h1
  obtain ⟨⟨⟨a1, a2⟩, a3⟩, a4⟩ := h1
  refine ⟨Nat.blt_eq.mp a1, Nat.eq_of_beq_eq_true a2, fun d hd => List.all_eq_true.mp a3 d hd, fun f d hd => ?_⟩
  have h5 := List.all_eq_true.mp a4 f (List.mem_range.mpr (List.getElem?_eq_some_iff.mp hd).1)
  rw [hd] at h5
  obtain ⟨t, d2⟩ := d
  constructor
  · rintro rfl
    exact of_decide_eq_true h5
  · rintro rfl
    exact of_decide_eq_true h5
theorem q_nn_le {n a b a' b' : Nat} (h1 : a ≤ a') (h2 : b ≤ b') : q_nn n (a, b) ≤ q_nn n (a', b') := by
  match b, b', h2 with
  | 0, 0, _ => exact h1
  | 0, 1, _ => show a ≤ a' + n; omega
  | 0, _ + 2, _ => show a ≤ a' + 3 * n; omega
  | 1, 1, _ => show a + n ≤ a' + n; omega
  | 1, _ + 2, _ => show a + n ≤ a' + 3 * n; omega
  | _ + 2, _ + 2, _ => show a + 3 * n ≤ a' + 3 * n; omega
theorem q_nn_ge {n a b : Nat} : a ≤ q_nn n (a, b) := by
  match b with
  | 0 => exact Nat.le_refl _
  | 1 => exact Nat.le_add_right _ _
  | _ + 2 => exact Nat.le_add_right _ _
theorem q_nn_add {n a b c : Nat} : q_nn n (a, b) + c = q_nn n (a + c, b) := by
  match b with
  | 0 => rfl
  | 1 => show a + n + c = a + c + n; omega
  | _ + 2 => show a + 3 * n + c = a + c + 3 * n; omega
theorem q_clo {n k i : Nat} {d : Nat × Nat × Nat} (hi : i < q_ct n k) (hd : q_clB k d = true) (h2 : ¬ d.1 < 2) : q_ix d.2.2 i < q_ct n d.2.1 := by
  unfold q_clB at hd
  rw [Bool.or_eq_true] at hd
  rcases hd with hd | hd
  · exact absurd (Nat.blt_eq.mp hd) h2
  obtain ⟨t, k', c⟩ := d
  unfold q_ct at hi ⊢
  generalize q_ctt.getD k (0, 0) = ab at hi hd
  dsimp only at hd ⊢
  generalize q_ctt.getD k' (0, 0) = ab' at hd ⊢
  obtain ⟨a, b⟩ := ab
  obtain ⟨a', b'⟩ := ab'
  have g := q_nn_ge (n := n) (a := a') (b := b')
  match c with
  | 0 =>
    have h := Nat.le_of_ble_eq_true hd
    show 0 < _
    dsimp only at h
    omega
  | 1 =>
    simp only [Bool.and_eq_true] at hd
    exact Nat.lt_of_lt_of_le hi (q_nn_le (Nat.le_of_ble_eq_true hd.1) (Nat.le_of_ble_eq_true hd.2))
  | 2 =>
    simp only [Bool.and_eq_true] at hd
    have h := q_nn_le (n := n) (Nat.le_of_ble_eq_true hd.1) (Nat.le_of_ble_eq_true hd.2)
    have e := q_nn_add (n := n) (a := a) (b := b) (c := 20)
    rw [Nat.add_comm 20 a] at h
    show 20 + i < _
    omega
  | _ + 3 =>
    simp only [Bool.and_eq_true] at hd
    have h := q_nn_le (n := n) (Nat.le_of_ble_eq_true hd.1) (Nat.le_of_ble_eq_true hd.2)
    have e := q_nn_add (n := n) (a := a) (b := b) (c := 1)
    show i + 1 < _
    omega
theorem q_fv_ok {n k i f : Nat} {σ : J} {w : Nat × List (Nat × Nat × Nat)} {d : Nat × Nat × Nat} (h : q_ko k = some w) (hd : w.2[f]? = some d) (hi : (k, i) ∈ idj n) : q_ok n (q_fv σ k i f d) = true := by
  unfold q_fv
  by_cases h2 : d.1 < 2
  · rw [Nat.blt_eq.mpr h2]
    rfl
  · have e : Nat.blt d.1 2 = false := by
      cases hb : Nat.blt d.1 2 with
      | false => rfl
      | true => exact absurd (Nat.blt_eq.mp hb) h2
    rw [e]
    exact q_ok_b (Nat.blt_eq.mpr (q_clo (idj_lt hi) ((q_kB_at h).2.2.1 d (List.mem_of_getElem? hd)) h2))
theorem q_cl_at {ci : Nat} (h : ci < vcl.length) : vcl[ci]? = some ((q_cl ci).1, (q_cl ci).2.1, (q_cl ci).2.2) := by
  unfold q_cl
  rw [List.getD_eq_getElem?_getD, List.getElem?_eq_getElem h]
  rfl
end
section
/-! Each step of the interpreter is a step of the machine: constants, locals, arithmetic, branches. Ours, written by sound.py -/
/-- the machine in a frame of method k at pc, with these locals, this operand stack, this state, comes to Q -/
def q_oks (n : Nat) : List PV → Prop
  | [] => True
  | v :: r => q_ok n v = true ∧ q_oks n r
/-- what is known of the locals, as a list -/
def q_ll (ad : Nat → Nat → Nat) (nL : Nat) (L : PL) : List (Nat × Value) := (List.range nL).filterMap fun a => (L a).map fun v => (a, q_tv ad v)
def q_tn : List FieldType := [.int, .long, .boolean, .object "JobBoard$Session", .object "JobBoard$Tuple", .object "JobBoard$Pattern", .object "JobBoard$Order"]
def q_ty (cy : Nat → ClassId) : List (ClassId × FieldType) := [(cy 0, .int), (cy 1, .long), (cy 2, .boolean), (cy 3, .object "JobBoard$Session"), (cy 4, .object "JobBoard$Tuple"), (cy 5, .object "JobBoard$Pattern"), (cy 6, .object "JobBoard$Order")]
def q_Cx (mt : Nat → MRow) (p : Program) (s : State) (m : MethodId) (meth : Method) (c : Code) (args : Array Value) (k : Nat) (D : va_G) (cy : Nat → ClassId) (n : Nat) (ad : Nat → Nat → Nat) (A : Nat → Prop) (R : Room) (cells slots : Nat) : Prop :=
  p.tables.exec = Jvm.exec ∧ c.code = (mt k).2.1 ∧ c.maxLocals = (mt k).2.2.1 ∧ s.vm.findClass (mt k).1.cls = some m.cls ∧ (∀ w ∈ gt, w.before args s = true) ∧ va_K D vcl (q_ty cy) s ∧ meth.sig.returnType = (mt k).2.2.2 ∧ meth.locks = false ∧ (∀ cn, va_D A (wl (idj n) ad cn)) ∧ 1 ≤ R.frames ∧ 40 ≤ R.locals ∧ cells ≤ R.cells ∧ slots ≤ R.slots
def q_W (mt : Nat → MRow) (p : Program) (l : Launch) (e : Env) (R : Room) (s : State) (m : MethodId) (args : Array Value) (below : List Frame) (meth : Method) (c : Code) (Q : State → Prop) (D : va_G) (cy : Nat → ClassId) (ad : Nat → Nat → Nat) (n : Nat) (A : Nat → Prop) (k cells slots pc : Nat) (L : PL) (st : List PV) (σ : J) : Prop :=
  ∀ (H : Heap) (locs : List Loc) (ls : Array Slot), WJ D cy ad n σ H → va_S A s.heap H locs → lv_has ls (mt k).2.2.1 (q_ll ad (mt k).2.2.1 L) → (∀ a v, L a = some v → q_ok n v = true) → q_oks n st → W p l e R s m args below meth c H locs cells slots Q (F0 m pc ls (st.map (q_tv ad)))
theorem q_pI_s {st : List PV} {q : Int32 × List PV} (h : q_pI st = some q) : st = .inl q.1 :: q.2 := by
  match st, h with
  | [], h => cases h
  | .inl x :: r, h => cases h; rfl
  | .inr _ :: _, h => cases h
theorem q_pL_s {st : List PV} {q : Int64 × List PV} (h : q_pL st = some q) : st = .inr (.inl q.1) :: q.2 := by
  match st, h with
  | [], h => cases h
  | .inl _ :: _, h => cases h
  | .inr (.inl x) :: r, h => cases h; rfl
  | .inr (.inr _) :: _, h => cases h
theorem q_pR_s {st : List PV} {q : (Nat × Nat) × List PV} (h : q_pR st = some q) : st = .inr (.inr (some q.1)) :: q.2 := by
  match st, h with
  | [], h => cases h
  | .inl _ :: _, h => cases h
  | .inr (.inl _) :: _, h => cases h
  | .inr (.inr none) :: _, h => cases h
  | .inr (.inr (some x)) :: r, h => cases h; rfl
theorem q_pN_s {st : List PV} {q : Option (Nat × Nat) × List PV} (h : q_pN st = some q) : st = .inr (.inr q.1) :: q.2 := by
  match st, h with
  | [], h => cases h
  | .inl _ :: _, h => cases h
  | .inr (.inl _) :: _, h => cases h
  | .inr (.inr x) :: r, h => cases h; rfl
theorem q_p1_s {st : List PV} {q : PV × List PV} (h : q_p1 st = some q) : st = q.1 :: q.2 := by
  match st, h with
  | [], h => cases h
  | .inl _ :: _, h => cases h; rfl
  | .inr (.inl _) :: _, h => cases h
  | .inr (.inr x) :: r, h => cases h; rfl
theorem q_cat_tv (ad : Nat → Nat → Nat) (v : PV) : (q_tv ad v).category = q_cat v := by
  match v with
  | .inl _ => rfl
  | .inr (.inl _) => rfl
  | .inr (.inr none) => rfl
  | .inr (.inr (some _)) => rfl
theorem q_p1_c {ad : Nat → Nat → Nat} {st : List PV} {q : PV × List PV} (h : q_p1 st = some q) : (q_tv ad q.1).category = 1 := by
  rw [q_cat_tv]
  match st, h with
  | [], h => cases h
  | .inl _ :: _, h => cases h; rfl
  | .inr (.inl _) :: _, h => cases h
  | .inr (.inr x) :: r, h => cases h; rfl
theorem q_ll_in {ad : Nat → Nat → Nat} {nL : Nat} {L : PL} {a : Nat} {v : PV} (ha : a < nL) (h : L a = some v) : (a, q_tv ad v) ∈ q_ll ad nL L := List.mem_filterMap.mpr ⟨a, List.mem_range.mpr ha, by rw [h]; rfl⟩
theorem q_ll_of {ad : Nat → Nat → Nat} {nL : Nat} {L : PL} {q : Nat × Value} (h : q ∈ q_ll ad nL L) : q.1 < nL ∧ ∃ v, L q.1 = some v ∧ q.2 = q_tv ad v := by
  obtain ⟨a, h1, h2⟩ := List.mem_filterMap.mp h
  cases hL : L a with
  | none => rw [hL] at h2; cases h2
  | some v =>
    rw [hL] at h2
    cases h2
    exact ⟨List.mem_range.mp h1, v, hL, rfl⟩
theorem q_ll_at {ad : Nat → Nat → Nat} {ls : Array Slot} {nL : Nat} {L : PL} {a : Nat} {v : PV} (hl : lv_has ls nL (q_ll ad nL L)) (ha : a < nL) (h : L a = some v) : ls[a]? = some (.val (q_tv ad v)) := hl.2.2 (a, q_tv ad v) (q_ll_in ha h)
theorem q_beq_ne {a b : Nat} (h : Nat.beq a b = false) : ¬ a = b := fun e => by
  subst e
  rw [Nat.beq_refl] at h
  cases h
theorem q_s1_has {ad : Nat → Nat → Nat} {ls : Array Slot} {nL : Nat} {L : PL} {a : Nat} {v : PV} (hl : lv_has ls nL ((a, q_tv ad v) :: (q_ll ad nL L).filter (fun q => !(q.1 == a) && !(q.1 + 1 == a && q.2.category == 2)))) : lv_has ls nL (q_ll ad nL (q_s1 L a v)) := by
  refine ⟨hl.1, hl.2.1, fun q hq => hl.2.2 q ?_⟩
  obtain ⟨h1, w, h2, h3⟩ := q_ll_of hq
  obtain ⟨b, u⟩ := q
  dsimp only at h1 h2 h3
  subst h3
  unfold q_s1 at h2
  cases hb : Nat.beq b a with
  | true =>
    rw [hb] at h2
    have h2 : some v = some w := h2
    cases h2
    obtain rfl := Nat.eq_of_beq_eq_true hb
    exact List.mem_cons_self
  | false =>
    rw [hb] at h2
    replace h2 : (bif Nat.beq (b + 1) a then (match L b with
      | some w => bif Nat.beq (q_cat w) 2 then none else some w
      | none => none) else L b) = some w := h2
    have hne := q_beq_ne hb
    refine List.mem_cons_of_mem _ (List.mem_filter.mpr ?_)
    cases hc : Nat.beq (b + 1) a with
    | true =>
      rw [hc] at h2
      cases hL : L b with
      | none => rw [hL] at h2; cases h2
      | some w' =>
        rw [hL] at h2
        replace h2 : (bif Nat.beq (q_cat w') 2 then none else some w') = some w := h2
        cases hd : Nat.beq (q_cat w') 2 with
        | true => rw [hd] at h2; cases h2
        | false =>
          rw [hd] at h2
          have h2 : some w' = some w := h2
          cases h2
          have := q_beq_ne hd
          exact ⟨q_ll_in h1 hL, by simp [hne, q_cat_tv, this]⟩
    | false =>
      rw [hc] at h2
      have := q_beq_ne hc
      exact ⟨q_ll_in h1 h2, by simp [hne, this]⟩
theorem q_s2_has {ad : Nat → Nat → Nat} {ls : Array Slot} {nL : Nat} {L : PL} {a : Nat} {v : PV} (hl : lv_has ls nL ((a, q_tv ad v) :: (q_ll ad nL L).filter (fun q => !(q.1 == a) && (!(q.1 == a + 1) && !(q.1 + 1 == a && q.2.category == 2))))) : lv_has ls nL (q_ll ad nL (q_s2 L a v)) := by
  refine ⟨hl.1, hl.2.1, fun q hq => hl.2.2 q ?_⟩
  obtain ⟨h1, w, h2, h3⟩ := q_ll_of hq
  obtain ⟨b, u⟩ := q
  dsimp only at h1 h2 h3
  subst h3
  unfold q_s2 at h2
  cases hb : Nat.beq b a with
  | true =>
    rw [hb] at h2
    have h2 : some v = some w := h2
    cases h2
    obtain rfl := Nat.eq_of_beq_eq_true hb
    exact List.mem_cons_self
  | false =>
    rw [hb] at h2
    replace h2 : (bif Nat.beq b (a + 1) then none else bif Nat.beq (b + 1) a then (match L b with
      | some w => bif Nat.beq (q_cat w) 2 then none else some w
      | none => none) else L b) = some w := h2
    have hne := q_beq_ne hb
    refine List.mem_cons_of_mem _ (List.mem_filter.mpr ?_)
    cases hx : Nat.beq b (a + 1) with
    | true => rw [hx] at h2; cases h2
    | false =>
      rw [hx] at h2
      replace h2 : (bif Nat.beq (b + 1) a then (match L b with
        | some w => bif Nat.beq (q_cat w) 2 then none else some w
        | none => none) else L b) = some w := h2
      have hnx := q_beq_ne hx
      cases hc : Nat.beq (b + 1) a with
      | true =>
        rw [hc] at h2
        cases hL : L b with
        | none => rw [hL] at h2; cases h2
        | some w' =>
          rw [hL] at h2
          replace h2 : (bif Nat.beq (q_cat w') 2 then none else some w') = some w := h2
          cases hd : Nat.beq (q_cat w') 2 with
          | true => rw [hd] at h2; cases h2
          | false =>
            rw [hd] at h2
            have h2 : some w' = some w := h2
            cases h2
            have := q_beq_ne hd
            exact ⟨q_ll_in h1 hL, by simp [hne, hnx, q_cat_tv, this]⟩
      | false =>
        rw [hc] at h2
        have := q_beq_ne hc
        exact ⟨q_ll_in h1 h2, by simp [hne, hnx, this]⟩
theorem q_s1_le {L : PL} {a b : Nat} {v w : PV} (h : q_s1 L a v b = some w) : w = v ∨ L b = some w := by
  unfold q_s1 at h
  cases hb : Nat.beq b a with
  | true =>
    rw [hb] at h
    have h : some v = some w := h
    cases h
    exact Or.inl rfl
  | false =>
    rw [hb] at h
    replace h : (bif Nat.beq (b + 1) a then (match L b with
      | some w => bif Nat.beq (q_cat w) 2 then none else some w
      | none => none) else L b) = some w := h
    cases hc : Nat.beq (b + 1) a with
    | true =>
      rw [hc] at h
      cases hL : L b with
      | none => rw [hL] at h; cases h
      | some w' =>
        rw [hL] at h
        replace h : (bif Nat.beq (q_cat w') 2 then none else some w') = some w := h
        cases hd : Nat.beq (q_cat w') 2 with
        | true => rw [hd] at h; cases h
        | false => rw [hd] at h; exact Or.inr h
    | false => rw [hc] at h; exact Or.inr h
theorem q_s2_le {L : PL} {a b : Nat} {v w : PV} (h : q_s2 L a v b = some w) : w = v ∨ L b = some w := by
  unfold q_s2 at h
  cases hb : Nat.beq b a with
  | true =>
    rw [hb] at h
    have h : some v = some w := h
    cases h
    exact Or.inl rfl
  | false =>
    rw [hb] at h
    replace h : (bif Nat.beq b (a + 1) then none else bif Nat.beq (b + 1) a then (match L b with
      | some w => bif Nat.beq (q_cat w) 2 then none else some w
      | none => none) else L b) = some w := h
    cases hx : Nat.beq b (a + 1) with
    | true => rw [hx] at h; cases h
    | false =>
      rw [hx] at h
      replace h : (bif Nat.beq (b + 1) a then (match L b with
        | some w => bif Nat.beq (q_cat w) 2 then none else some w
        | none => none) else L b) = some w := h
      cases hc : Nat.beq (b + 1) a with
      | true =>
        rw [hc] at h
        cases hL : L b with
        | none => rw [hL] at h; cases h
        | some w' =>
          rw [hL] at h
          replace h : (bif Nat.beq (q_cat w') 2 then none else some w') = some w := h
          cases hd : Nat.beq (q_cat w') 2 with
          | true => rw [hd] at h; cases h
          | false => rw [hd] at h; exact Or.inr h
      | false => rw [hc] at h; exact Or.inr h
theorem q_s1_ok {n : Nat} {L : PL} {a : Nat} {v : PV} (hL : ∀ b w, L b = some w → q_ok n w = true) (hv : q_ok n v = true) : ∀ b w, q_s1 L a v b = some w → q_ok n w = true := by
  intro b w h
  rcases q_s1_le h with rfl | h
  · exact hv
  · exact hL b w h
theorem q_s2_ok {n : Nat} {L : PL} {a : Nat} {v : PV} (hL : ∀ b w, L b = some w → q_ok n w = true) (hv : q_ok n v = true) : ∀ b w, q_s2 L a v b = some w → q_ok n w = true := by
  intro b w h
  rcases q_s2_le h with rfl | h
  · exact hv
  · exact hL b w h
section SND
variable {mt : Nat → MRow} {p : Program} {l : Launch} {e : Env} {R : Room} {s : State} {m : MethodId} {args : Array Value} {below : List Frame} {meth : Method} {c : Code} {Q : State → Prop} {D : va_G} {cy : Nat → ClassId} {ad : Nat → Nat → Nat} {n k cells slots pc : Nat} {A : Nat → Prop} {g : Nat → PL → List PV → J → Option Res} {cal : Nat → List PV → J → Option Res} {r : Res} {L : PL} {st : List PV} {σ : J} {ox : Int} {oa ob : Nat} {ol : List Nat}
theorem z_0 (cx : q_Cx mt p s m meth c args k D cy n ad A R cells slots) (hg : ∀ pc L st σ, g pc L st σ = some r → q_W mt p l e R s m args below meth c Q D cy ad n A k cells slots pc L st σ) (ho : q_okB mt k pc (0, ox, oa, ob, ol) = true) (h : q_stp n g cal pc (0, ox, oa, ob, ol) L st σ = some r) : q_W mt p l e R s m args below meth c Q D cy ad n A k cells slots pc L st σ := by
  replace ho : q_dc (mt k).2.1 pc (.iconst ox) 1 = true := ho
  replace h : (g (pc + 1) L (.inl (Int32.ofInt ox) :: st) σ) = some r := h
  intro H locs ls hP hS hl hL hst
  exact lv_iconst cx.1 cx.2.1 (q_dd ho) rfl (hg _ _ _ _ h H locs ls hP hS hl hL ⟨rfl, hst⟩)
theorem z_1 (cx : q_Cx mt p s m meth c args k D cy n ad A R cells slots) (hg : ∀ pc L st σ, g pc L st σ = some r → q_W mt p l e R s m args below meth c Q D cy ad n A k cells slots pc L st σ) (ho : q_okB mt k pc (1, ox, oa, ob, ol) = true) (h : q_stp n g cal pc (1, ox, oa, ob, ol) L st σ = some r) : q_W mt p l e R s m args below meth c Q D cy ad n A k cells slots pc L st σ := by
  replace ho : (q_dc (mt k).2.1 pc (.bipush ox) 2 && decide ((Int8.ofInt ox).toInt32 = Int32.ofInt ox)) = true := ho
  simp only [Bool.and_eq_true] at ho
  replace h : (g (pc + 2) L (.inl (Int32.ofInt ox) :: st) σ) = some r := h
  intro H locs ls hP hS hl hL hst
  exact lv_bipush cx.1 cx.2.1 (q_dd ho.1) (of_decide_eq_true ho.2) (hg _ _ _ _ h H locs ls hP hS hl hL ⟨rfl, hst⟩)
theorem z_2 (cx : q_Cx mt p s m meth c args k D cy n ad A R cells slots) (hg : ∀ pc L st σ, g pc L st σ = some r → q_W mt p l e R s m args below meth c Q D cy ad n A k cells slots pc L st σ) (ho : q_okB mt k pc (2, ox, oa, ob, ol) = true) (h : q_stp n g cal pc (2, ox, oa, ob, ol) L st σ = some r) : q_W mt p l e R s m args below meth c Q D cy ad n A k cells slots pc L st σ := by
  replace ho : (q_dc (mt k).2.1 pc (.sipush ox) 3 && decide ((Int16.ofInt ox).toInt32 = Int32.ofInt ox)) = true := ho
  simp only [Bool.and_eq_true] at ho
  replace h : (g (pc + 3) L (.inl (Int32.ofInt ox) :: st) σ) = some r := h
  intro H locs ls hP hS hl hL hst
  exact lv_sipush cx.1 cx.2.1 (q_dd ho.1) (of_decide_eq_true ho.2) (hg _ _ _ _ h H locs ls hP hS hl hL ⟨rfl, hst⟩)
theorem z_3 (cx : q_Cx mt p s m meth c args k D cy n ad A R cells slots) (hg : ∀ pc L st σ, g pc L st σ = some r → q_W mt p l e R s m args below meth c Q D cy ad n A k cells slots pc L st σ) (ho : q_okB mt k pc (3, ox, oa, ob, ol) = true) (h : q_stp n g cal pc (3, ox, oa, ob, ol) L st σ = some r) : q_W mt p l e R s m args below meth c Q D cy ad n A k cells slots pc L st σ := by
  replace ho : (q_dc (mt k).2.1 pc (.lconst (Fin.ofNat 2 oa)) 1 && decide (Int64.ofNat ((Fin.ofNat 2 oa : Fin 2) : Nat) = Int64.ofInt ox)) = true := ho
  simp only [Bool.and_eq_true] at ho
  replace h : (g (pc + 1) L (.inr (.inl (Int64.ofInt ox)) :: st) σ) = some r := h
  intro H locs ls hP hS hl hL hst
  exact lv_lconst cx.1 cx.2.1 (q_dd ho.1) (of_decide_eq_true ho.2) (hg _ _ _ _ h H locs ls hP hS hl hL ⟨rfl, hst⟩)
theorem z_4 (cx : q_Cx mt p s m meth c args k D cy n ad A R cells slots) (hg : ∀ pc L st σ, g pc L st σ = some r → q_W mt p l e R s m args below meth c Q D cy ad n A k cells slots pc L st σ) (ho : q_okB mt k pc (4, ox, oa, ob, ol) = true) (h : q_stp n g cal pc (4, ox, oa, ob, ol) L st σ = some r) : q_W mt p l e R s m args below meth c Q D cy ad n A k cells slots pc L st σ := by
  replace ho : (q_dc (mt k).2.1 pc (.ldc2_w oa) 3 && q_wd ob (.constantLong (mt k).1.cls oa (Int64.ofInt ox))) = true := ho
  simp only [Bool.and_eq_true] at ho
  replace h : g (pc + 3) L (.inr (.inl (Int64.ofInt ox)) :: st) σ = some r := h
  intro H locs ls hP hS hl hL hst
  exact lv_ldc2 cx.1 cx.2.1 cx.2.2.2.1 (cx.2.2.2.2.1 _ (q_wd_in ho.2)) (q_dd ho.1) (hg _ _ _ _ h H locs ls hP hS hl hL ⟨rfl, hst⟩)
theorem z_6 (cx : q_Cx mt p s m meth c args k D cy n ad A R cells slots) (hg : ∀ pc L st σ, g pc L st σ = some r → q_W mt p l e R s m args below meth c Q D cy ad n A k cells slots pc L st σ) (ho : q_okB mt k pc (6, ox, oa, ob, ol) = true) (h : q_stp n g cal pc (6, ox, oa, ob, ol) L st σ = some r) : q_W mt p l e R s m args below meth c Q D cy ad n A k cells slots pc L st σ := by
  replace ho : (q_dc (mt k).2.1 pc (.iload_n (Fin.ofNat 4 oa)) 1 && decide (((Fin.ofNat 4 oa : Fin 4) : Nat) = oa) && Nat.blt oa (mt k).2.2.1) = true := ho
  simp only [Bool.and_eq_true] at ho
  replace h : ((L oa).bind fun v => (q_pI (v :: st)).bind fun _ => g (pc + 1) L (v :: st) σ) = some r := h
  obtain ⟨v, e_v, h⟩ := Option.bind_eq_some_iff.mp h
  obtain ⟨w, e_w, h⟩ := Option.bind_eq_some_iff.mp h
  have e_1 := (List.cons.inj (q_pI_s e_w)).1
  intro H locs ls hP hS hl hL hst
  have h1 := q_ll_at hl (Nat.blt_eq.mp ho.2) e_v
  have h2 := hL _ _ e_v
  have h3 := hg _ _ _ _ h H locs ls hP hS hl hL ⟨h2, hst⟩
  rw [e_1] at h1 h3
  exact lv_iload_n cx.1 cx.2.1 (q_dd ho.1.1) (of_decide_eq_true ho.1.2) h1 h3
theorem z_7 (cx : q_Cx mt p s m meth c args k D cy n ad A R cells slots) (hg : ∀ pc L st σ, g pc L st σ = some r → q_W mt p l e R s m args below meth c Q D cy ad n A k cells slots pc L st σ) (ho : q_okB mt k pc (7, ox, oa, ob, ol) = true) (h : q_stp n g cal pc (7, ox, oa, ob, ol) L st σ = some r) : q_W mt p l e R s m args below meth c Q D cy ad n A k cells slots pc L st σ := by
  replace ho : (q_dc (mt k).2.1 pc (.iload oa) 2 && Nat.blt oa (mt k).2.2.1) = true := ho
  simp only [Bool.and_eq_true] at ho
  replace h : ((L oa).bind fun v => (q_pI (v :: st)).bind fun _ => g (pc + 2) L (v :: st) σ) = some r := h
  obtain ⟨v, e_v, h⟩ := Option.bind_eq_some_iff.mp h
  obtain ⟨w, e_w, h⟩ := Option.bind_eq_some_iff.mp h
  have e_1 := (List.cons.inj (q_pI_s e_w)).1
  intro H locs ls hP hS hl hL hst
  have h1 := q_ll_at hl (Nat.blt_eq.mp ho.2) e_v
  have h2 := hL _ _ e_v
  have h3 := hg _ _ _ _ h H locs ls hP hS hl hL ⟨h2, hst⟩
  rw [e_1] at h1 h3
  exact lv_iload cx.1 cx.2.1 (q_dd ho.1) h1 h3
theorem z_8 (cx : q_Cx mt p s m meth c args k D cy n ad A R cells slots) (hg : ∀ pc L st σ, g pc L st σ = some r → q_W mt p l e R s m args below meth c Q D cy ad n A k cells slots pc L st σ) (ho : q_okB mt k pc (8, ox, oa, ob, ol) = true) (h : q_stp n g cal pc (8, ox, oa, ob, ol) L st σ = some r) : q_W mt p l e R s m args below meth c Q D cy ad n A k cells slots pc L st σ := by
  replace ho : (q_dc (mt k).2.1 pc (.lload_n (Fin.ofNat 4 oa)) 1 && decide (((Fin.ofNat 4 oa : Fin 4) : Nat) = oa) && Nat.blt oa (mt k).2.2.1) = true := ho
  simp only [Bool.and_eq_true] at ho
  replace h : ((L oa).bind fun v => (q_pL (v :: st)).bind fun _ => g (pc + 1) L (v :: st) σ) = some r := h
  obtain ⟨v, e_v, h⟩ := Option.bind_eq_some_iff.mp h
  obtain ⟨w, e_w, h⟩ := Option.bind_eq_some_iff.mp h
  have e_1 := (List.cons.inj (q_pL_s e_w)).1
  intro H locs ls hP hS hl hL hst
  have h1 := q_ll_at hl (Nat.blt_eq.mp ho.2) e_v
  have h2 := hL _ _ e_v
  have h3 := hg _ _ _ _ h H locs ls hP hS hl hL ⟨h2, hst⟩
  rw [e_1] at h1 h3
  exact lv_lload_n cx.1 cx.2.1 (q_dd ho.1.1) (of_decide_eq_true ho.1.2) h1 h3
theorem z_9 (cx : q_Cx mt p s m meth c args k D cy n ad A R cells slots) (hg : ∀ pc L st σ, g pc L st σ = some r → q_W mt p l e R s m args below meth c Q D cy ad n A k cells slots pc L st σ) (ho : q_okB mt k pc (9, ox, oa, ob, ol) = true) (h : q_stp n g cal pc (9, ox, oa, ob, ol) L st σ = some r) : q_W mt p l e R s m args below meth c Q D cy ad n A k cells slots pc L st σ := by
  replace ho : (q_dc (mt k).2.1 pc (.lload oa) 2 && Nat.blt oa (mt k).2.2.1) = true := ho
  simp only [Bool.and_eq_true] at ho
  replace h : ((L oa).bind fun v => (q_pL (v :: st)).bind fun _ => g (pc + 2) L (v :: st) σ) = some r := h
  obtain ⟨v, e_v, h⟩ := Option.bind_eq_some_iff.mp h
  obtain ⟨w, e_w, h⟩ := Option.bind_eq_some_iff.mp h
  have e_1 := (List.cons.inj (q_pL_s e_w)).1
  intro H locs ls hP hS hl hL hst
  have h1 := q_ll_at hl (Nat.blt_eq.mp ho.2) e_v
  have h2 := hL _ _ e_v
  have h3 := hg _ _ _ _ h H locs ls hP hS hl hL ⟨h2, hst⟩
  rw [e_1] at h1 h3
  exact lv_lload cx.1 cx.2.1 (q_dd ho.1) h1 h3
theorem z_10 (cx : q_Cx mt p s m meth c args k D cy n ad A R cells slots) (hg : ∀ pc L st σ, g pc L st σ = some r → q_W mt p l e R s m args below meth c Q D cy ad n A k cells slots pc L st σ) (ho : q_okB mt k pc (10, ox, oa, ob, ol) = true) (h : q_stp n g cal pc (10, ox, oa, ob, ol) L st σ = some r) : q_W mt p l e R s m args below meth c Q D cy ad n A k cells slots pc L st σ := by
  replace ho : (q_dc (mt k).2.1 pc (.aload_n (Fin.ofNat 4 oa)) 1 && decide (((Fin.ofNat 4 oa : Fin 4) : Nat) = oa) && Nat.blt oa (mt k).2.2.1) = true := ho
  simp only [Bool.and_eq_true] at ho
  replace h : ((L oa).bind fun v => (q_pN (v :: st)).bind fun _ => g (pc + 1) L (v :: st) σ) = some r := h
  obtain ⟨v, e_v, h⟩ := Option.bind_eq_some_iff.mp h
  obtain ⟨w, e_w, h⟩ := Option.bind_eq_some_iff.mp h
  have e_1 := (List.cons.inj (q_pN_s e_w)).1
  intro H locs ls hP hS hl hL hst
  have h1 := q_ll_at hl (Nat.blt_eq.mp ho.2) e_v
  have h2 := hL _ _ e_v
  have h3 := hg _ _ _ _ h H locs ls hP hS hl hL ⟨h2, hst⟩
  rw [e_1] at h1 h3
  obtain ⟨w1, w2⟩ := w
  cases w1 with
  | none => exact lv_aload_nN cx.1 cx.2.1 (q_dd ho.1.1) (of_decide_eq_true ho.1.2) h1 h3
  | some q => exact lv_aload_n cx.1 cx.2.1 (q_dd ho.1.1) (of_decide_eq_true ho.1.2) h1 h3
theorem z_11 (cx : q_Cx mt p s m meth c args k D cy n ad A R cells slots) (hg : ∀ pc L st σ, g pc L st σ = some r → q_W mt p l e R s m args below meth c Q D cy ad n A k cells slots pc L st σ) (ho : q_okB mt k pc (11, ox, oa, ob, ol) = true) (h : q_stp n g cal pc (11, ox, oa, ob, ol) L st σ = some r) : q_W mt p l e R s m args below meth c Q D cy ad n A k cells slots pc L st σ := by
  replace ho : (q_dc (mt k).2.1 pc (.aload oa) 2 && Nat.blt oa (mt k).2.2.1) = true := ho
  simp only [Bool.and_eq_true] at ho
  replace h : ((L oa).bind fun v => (q_pN (v :: st)).bind fun _ => g (pc + 2) L (v :: st) σ) = some r := h
  obtain ⟨v, e_v, h⟩ := Option.bind_eq_some_iff.mp h
  obtain ⟨w, e_w, h⟩ := Option.bind_eq_some_iff.mp h
  have e_1 := (List.cons.inj (q_pN_s e_w)).1
  intro H locs ls hP hS hl hL hst
  have h1 := q_ll_at hl (Nat.blt_eq.mp ho.2) e_v
  have h2 := hL _ _ e_v
  have h3 := hg _ _ _ _ h H locs ls hP hS hl hL ⟨h2, hst⟩
  rw [e_1] at h1 h3
  obtain ⟨w1, w2⟩ := w
  cases w1 with
  | none => exact lv_aloadN cx.1 cx.2.1 (q_dd ho.1) h1 h3
  | some q => exact lv_aload cx.1 cx.2.1 (q_dd ho.1) h1 h3
theorem z_12 (cx : q_Cx mt p s m meth c args k D cy n ad A R cells slots) (hg : ∀ pc L st σ, g pc L st σ = some r → q_W mt p l e R s m args below meth c Q D cy ad n A k cells slots pc L st σ) (ho : q_okB mt k pc (12, ox, oa, ob, ol) = true) (h : q_stp n g cal pc (12, ox, oa, ob, ol) L st σ = some r) : q_W mt p l e R s m args below meth c Q D cy ad n A k cells slots pc L st σ := by
  replace ho : (q_dc (mt k).2.1 pc (.istore_n (Fin.ofNat 4 oa)) 1 && decide (((Fin.ofNat 4 oa : Fin 4) : Nat) = oa) && Nat.blt oa (mt k).2.2.1) = true := ho
  simp only [Bool.and_eq_true] at ho
  replace h : ((q_pI st).bind fun q => g (pc + 1) (q_s1 L oa (.inl q.1)) q.2 σ) = some r := h
  obtain ⟨q, e_q, h⟩ := Option.bind_eq_some_iff.mp h
  rw [q_pI_s e_q]
  intro H locs ls hP hS hl hL hst
  exact lv_istore_n cx.1 cx.2.1 (q_dd ho.1.1) (of_decide_eq_true ho.1.2) hl (Nat.blt_eq.mp ho.2) rfl (fun ls' hl' => hg _ _ _ _ h H locs ls' hP hS (q_s1_has hl') (q_s1_ok hL hst.1) hst.2)
theorem z_13 (cx : q_Cx mt p s m meth c args k D cy n ad A R cells slots) (hg : ∀ pc L st σ, g pc L st σ = some r → q_W mt p l e R s m args below meth c Q D cy ad n A k cells slots pc L st σ) (ho : q_okB mt k pc (13, ox, oa, ob, ol) = true) (h : q_stp n g cal pc (13, ox, oa, ob, ol) L st σ = some r) : q_W mt p l e R s m args below meth c Q D cy ad n A k cells slots pc L st σ := by
  replace ho : (q_dc (mt k).2.1 pc (.istore oa) 2 && Nat.blt oa (mt k).2.2.1) = true := ho
  simp only [Bool.and_eq_true] at ho
  replace h : ((q_pI st).bind fun q => g (pc + 2) (q_s1 L oa (.inl q.1)) q.2 σ) = some r := h
  obtain ⟨q, e_q, h⟩ := Option.bind_eq_some_iff.mp h
  rw [q_pI_s e_q]
  intro H locs ls hP hS hl hL hst
  exact lv_istore cx.1 cx.2.1 (q_dd ho.1) hl (Nat.blt_eq.mp ho.2) rfl (fun ls' hl' => hg _ _ _ _ h H locs ls' hP hS (q_s1_has hl') (q_s1_ok hL hst.1) hst.2)
theorem z_14 (cx : q_Cx mt p s m meth c args k D cy n ad A R cells slots) (hg : ∀ pc L st σ, g pc L st σ = some r → q_W mt p l e R s m args below meth c Q D cy ad n A k cells slots pc L st σ) (ho : q_okB mt k pc (14, ox, oa, ob, ol) = true) (h : q_stp n g cal pc (14, ox, oa, ob, ol) L st σ = some r) : q_W mt p l e R s m args below meth c Q D cy ad n A k cells slots pc L st σ := by
  replace ho : (q_dc (mt k).2.1 pc (.lstore_n (Fin.ofNat 4 oa)) 1 && decide (((Fin.ofNat 4 oa : Fin 4) : Nat) = oa) && Nat.blt (oa + 1) (mt k).2.2.1) = true := ho
  simp only [Bool.and_eq_true] at ho
  replace h : ((q_pL st).bind fun q => g (pc + 1) (q_s2 L oa (.inr (.inl q.1))) q.2 σ) = some r := h
  obtain ⟨q, e_q, h⟩ := Option.bind_eq_some_iff.mp h
  rw [q_pL_s e_q]
  intro H locs ls hP hS hl hL hst
  exact lv_lstore_n cx.1 cx.2.1 (q_dd ho.1.1) (of_decide_eq_true ho.1.2) hl (Nat.blt_eq.mp ho.2) rfl (fun ls' hl' => hg _ _ _ _ h H locs ls' hP hS (q_s2_has hl') (q_s2_ok hL hst.1) hst.2)
theorem z_15 (cx : q_Cx mt p s m meth c args k D cy n ad A R cells slots) (hg : ∀ pc L st σ, g pc L st σ = some r → q_W mt p l e R s m args below meth c Q D cy ad n A k cells slots pc L st σ) (ho : q_okB mt k pc (15, ox, oa, ob, ol) = true) (h : q_stp n g cal pc (15, ox, oa, ob, ol) L st σ = some r) : q_W mt p l e R s m args below meth c Q D cy ad n A k cells slots pc L st σ := by
  replace ho : (q_dc (mt k).2.1 pc (.lstore oa) 2 && Nat.blt (oa + 1) (mt k).2.2.1) = true := ho
  simp only [Bool.and_eq_true] at ho
  replace h : ((q_pL st).bind fun q => g (pc + 2) (q_s2 L oa (.inr (.inl q.1))) q.2 σ) = some r := h
  obtain ⟨q, e_q, h⟩ := Option.bind_eq_some_iff.mp h
  rw [q_pL_s e_q]
  intro H locs ls hP hS hl hL hst
  exact lv_lstore cx.1 cx.2.1 (q_dd ho.1) hl (Nat.blt_eq.mp ho.2) rfl (fun ls' hl' => hg _ _ _ _ h H locs ls' hP hS (q_s2_has hl') (q_s2_ok hL hst.1) hst.2)
theorem z_16 (cx : q_Cx mt p s m meth c args k D cy n ad A R cells slots) (hg : ∀ pc L st σ, g pc L st σ = some r → q_W mt p l e R s m args below meth c Q D cy ad n A k cells slots pc L st σ) (ho : q_okB mt k pc (16, ox, oa, ob, ol) = true) (h : q_stp n g cal pc (16, ox, oa, ob, ol) L st σ = some r) : q_W mt p l e R s m args below meth c Q D cy ad n A k cells slots pc L st σ := by
  replace ho : (q_dc (mt k).2.1 pc (.astore_n (Fin.ofNat 4 oa)) 1 && decide (((Fin.ofNat 4 oa : Fin 4) : Nat) = oa) && Nat.blt oa (mt k).2.2.1) = true := ho
  simp only [Bool.and_eq_true] at ho
  replace h : ((q_pN st).bind fun q => g (pc + 1) (q_s1 L oa (.inr (.inr q.1))) q.2 σ) = some r := h
  obtain ⟨q, e_q, h⟩ := Option.bind_eq_some_iff.mp h
  rw [q_pN_s e_q]
  intro H locs ls hP hS hl hL hst
  obtain ⟨w1, w2⟩ := q
  cases w1 with
  | none => exact lv_astore_nN cx.1 cx.2.1 (q_dd ho.1.1) (of_decide_eq_true ho.1.2) hl (Nat.blt_eq.mp ho.2) rfl (fun ls' hl' => hg _ _ _ _ h H locs ls' hP hS (q_s1_has hl') (q_s1_ok hL hst.1) hst.2)
  | some q => exact lv_astore_n cx.1 cx.2.1 (q_dd ho.1.1) (of_decide_eq_true ho.1.2) hl (Nat.blt_eq.mp ho.2) rfl (fun ls' hl' => hg _ _ _ _ h H locs ls' hP hS (q_s1_has hl') (q_s1_ok hL hst.1) hst.2)
theorem z_17 (cx : q_Cx mt p s m meth c args k D cy n ad A R cells slots) (hg : ∀ pc L st σ, g pc L st σ = some r → q_W mt p l e R s m args below meth c Q D cy ad n A k cells slots pc L st σ) (ho : q_okB mt k pc (17, ox, oa, ob, ol) = true) (h : q_stp n g cal pc (17, ox, oa, ob, ol) L st σ = some r) : q_W mt p l e R s m args below meth c Q D cy ad n A k cells slots pc L st σ := by
  replace ho : (q_dc (mt k).2.1 pc (.astore oa) 2 && Nat.blt oa (mt k).2.2.1) = true := ho
  simp only [Bool.and_eq_true] at ho
  replace h : ((q_pN st).bind fun q => g (pc + 2) (q_s1 L oa (.inr (.inr q.1))) q.2 σ) = some r := h
  obtain ⟨q, e_q, h⟩ := Option.bind_eq_some_iff.mp h
  rw [q_pN_s e_q]
  intro H locs ls hP hS hl hL hst
  obtain ⟨w1, w2⟩ := q
  cases w1 with
  | none => exact lv_astoreN cx.1 cx.2.1 (q_dd ho.1) hl (Nat.blt_eq.mp ho.2) rfl (fun ls' hl' => hg _ _ _ _ h H locs ls' hP hS (q_s1_has hl') (q_s1_ok hL hst.1) hst.2)
  | some q => exact lv_astore cx.1 cx.2.1 (q_dd ho.1) hl (Nat.blt_eq.mp ho.2) rfl (fun ls' hl' => hg _ _ _ _ h H locs ls' hP hS (q_s1_has hl') (q_s1_ok hL hst.1) hst.2)
theorem z_18 (cx : q_Cx mt p s m meth c args k D cy n ad A R cells slots) (hg : ∀ pc L st σ, g pc L st σ = some r → q_W mt p l e R s m args below meth c Q D cy ad n A k cells slots pc L st σ) (ho : q_okB mt k pc (18, ox, oa, ob, ol) = true) (h : q_stp n g cal pc (18, ox, oa, ob, ol) L st σ = some r) : q_W mt p l e R s m args below meth c Q D cy ad n A k cells slots pc L st σ := by
  replace ho : (q_dc (mt k).2.1 pc (.iinc oa ox) 3 && Nat.blt oa (mt k).2.2.1) = true := ho
  simp only [Bool.and_eq_true] at ho
  replace h : ((L oa).bind fun v => (q_pI [v]).bind fun q => g (pc + 3) (q_s1 L oa (.inl (q.1 + Int32.ofInt ox))) st σ) = some r := h
  obtain ⟨v, e_v, h⟩ := Option.bind_eq_some_iff.mp h
  obtain ⟨q, e_q, h⟩ := Option.bind_eq_some_iff.mp h
  have e_1 := (List.cons.inj (q_pI_s e_q)).1
  intro H locs ls hP hS hl hL hst
  rw [e_1] at e_v
  have h2 : (oa, Value.int q.1) ∈ q_ll ad (mt k).2.2.1 L := q_ll_in (Nat.blt_eq.mp ho.2) e_v
  obtain ⟨j, hj⟩ := List.getElem?_of_mem h2
  exact lv_iinc (k := j) cx.1 cx.2.1 (q_dd ho.1) hl hj rfl (Nat.blt_eq.mp ho.2) rfl (fun ls' hl' => hg _ _ _ _ h H locs ls' hP hS (q_s1_has (v := .inl (q.1 + Int32.ofInt ox)) hl') (q_s1_ok hL rfl) hst)
theorem z_19 (cx : q_Cx mt p s m meth c args k D cy n ad A R cells slots) (hg : ∀ pc L st σ, g pc L st σ = some r → q_W mt p l e R s m args below meth c Q D cy ad n A k cells slots pc L st σ) (ho : q_okB mt k pc (19, ox, oa, ob, ol) = true) (h : q_stp n g cal pc (19, ox, oa, ob, ol) L st σ = some r) : q_W mt p l e R s m args below meth c Q D cy ad n A k cells slots pc L st σ := by
  replace ho : q_dc (mt k).2.1 pc .iadd 1 = true := ho
  replace h : ((q_pI st).bind fun y => (q_pI y.2).bind fun x => g (pc + 1) L (.inl (x.1 + y.1) :: x.2) σ) = some r := h
  obtain ⟨y, e_y, h⟩ := Option.bind_eq_some_iff.mp h
  obtain ⟨x, e_x, h⟩ := Option.bind_eq_some_iff.mp h
  rw [q_pI_s e_y, q_pI_s e_x]
  intro H locs ls hP hS hl hL hst
  exact lv_iadd cx.1 cx.2.1 (q_dd ho) (hg _ _ _ _ h H locs ls hP hS hl hL ⟨rfl, hst.2.2⟩)
theorem z_20 (cx : q_Cx mt p s m meth c args k D cy n ad A R cells slots) (hg : ∀ pc L st σ, g pc L st σ = some r → q_W mt p l e R s m args below meth c Q D cy ad n A k cells slots pc L st σ) (ho : q_okB mt k pc (20, ox, oa, ob, ol) = true) (h : q_stp n g cal pc (20, ox, oa, ob, ol) L st σ = some r) : q_W mt p l e R s m args below meth c Q D cy ad n A k cells slots pc L st σ := by
  replace ho : q_dc (mt k).2.1 pc .isub 1 = true := ho
  replace h : ((q_pI st).bind fun y => (q_pI y.2).bind fun x => g (pc + 1) L (.inl (x.1 - y.1) :: x.2) σ) = some r := h
  obtain ⟨y, e_y, h⟩ := Option.bind_eq_some_iff.mp h
  obtain ⟨x, e_x, h⟩ := Option.bind_eq_some_iff.mp h
  rw [q_pI_s e_y, q_pI_s e_x]
  intro H locs ls hP hS hl hL hst
  exact lv_isub cx.1 cx.2.1 (q_dd ho) (hg _ _ _ _ h H locs ls hP hS hl hL ⟨rfl, hst.2.2⟩)
theorem z_21 (cx : q_Cx mt p s m meth c args k D cy n ad A R cells slots) (hg : ∀ pc L st σ, g pc L st σ = some r → q_W mt p l e R s m args below meth c Q D cy ad n A k cells slots pc L st σ) (ho : q_okB mt k pc (21, ox, oa, ob, ol) = true) (h : q_stp n g cal pc (21, ox, oa, ob, ol) L st σ = some r) : q_W mt p l e R s m args below meth c Q D cy ad n A k cells slots pc L st σ := by
  replace ho : q_dc (mt k).2.1 pc .imul 1 = true := ho
  replace h : ((q_pI st).bind fun y => (q_pI y.2).bind fun x => g (pc + 1) L (.inl (x.1 * y.1) :: x.2) σ) = some r := h
  obtain ⟨y, e_y, h⟩ := Option.bind_eq_some_iff.mp h
  obtain ⟨x, e_x, h⟩ := Option.bind_eq_some_iff.mp h
  rw [q_pI_s e_y, q_pI_s e_x]
  intro H locs ls hP hS hl hL hst
  exact lv_imul cx.1 cx.2.1 (q_dd ho) (hg _ _ _ _ h H locs ls hP hS hl hL ⟨rfl, hst.2.2⟩)
theorem z_23 (cx : q_Cx mt p s m meth c args k D cy n ad A R cells slots) (hg : ∀ pc L st σ, g pc L st σ = some r → q_W mt p l e R s m args below meth c Q D cy ad n A k cells slots pc L st σ) (ho : q_okB mt k pc (23, ox, oa, ob, ol) = true) (h : q_stp n g cal pc (23, ox, oa, ob, ol) L st σ = some r) : q_W mt p l e R s m args below meth c Q D cy ad n A k cells slots pc L st σ := by
  replace ho : q_dc (mt k).2.1 pc .iand 1 = true := ho
  replace h : ((q_pI st).bind fun y => (q_pI y.2).bind fun x => g (pc + 1) L (.inl (x.1 &&& y.1) :: x.2) σ) = some r := h
  obtain ⟨y, e_y, h⟩ := Option.bind_eq_some_iff.mp h
  obtain ⟨x, e_x, h⟩ := Option.bind_eq_some_iff.mp h
  rw [q_pI_s e_y, q_pI_s e_x]
  intro H locs ls hP hS hl hL hst
  exact lv_iand cx.1 cx.2.1 (q_dd ho) (hg _ _ _ _ h H locs ls hP hS hl hL ⟨rfl, hst.2.2⟩)
theorem z_24 (cx : q_Cx mt p s m meth c args k D cy n ad A R cells slots) (hg : ∀ pc L st σ, g pc L st σ = some r → q_W mt p l e R s m args below meth c Q D cy ad n A k cells slots pc L st σ) (ho : q_okB mt k pc (24, ox, oa, ob, ol) = true) (h : q_stp n g cal pc (24, ox, oa, ob, ol) L st σ = some r) : q_W mt p l e R s m args below meth c Q D cy ad n A k cells slots pc L st σ := by
  replace ho : q_dc (mt k).2.1 pc .ior 1 = true := ho
  replace h : ((q_pI st).bind fun y => (q_pI y.2).bind fun x => g (pc + 1) L (.inl (x.1 ||| y.1) :: x.2) σ) = some r := h
  obtain ⟨y, e_y, h⟩ := Option.bind_eq_some_iff.mp h
  obtain ⟨x, e_x, h⟩ := Option.bind_eq_some_iff.mp h
  rw [q_pI_s e_y, q_pI_s e_x]
  intro H locs ls hP hS hl hL hst
  exact lv_ior cx.1 cx.2.1 (q_dd ho) (hg _ _ _ _ h H locs ls hP hS hl hL ⟨rfl, hst.2.2⟩)
theorem z_25 (cx : q_Cx mt p s m meth c args k D cy n ad A R cells slots) (hg : ∀ pc L st σ, g pc L st σ = some r → q_W mt p l e R s m args below meth c Q D cy ad n A k cells slots pc L st σ) (ho : q_okB mt k pc (25, ox, oa, ob, ol) = true) (h : q_stp n g cal pc (25, ox, oa, ob, ol) L st σ = some r) : q_W mt p l e R s m args below meth c Q D cy ad n A k cells slots pc L st σ := by
  replace ho : q_dc (mt k).2.1 pc .ishl 1 = true := ho
  replace h : ((q_pI st).bind fun y => (q_pI y.2).bind fun x => g (pc + 1) L (.inl (x.1 <<< (y.1 &&& 31)) :: x.2) σ) = some r := h
  obtain ⟨y, e_y, h⟩ := Option.bind_eq_some_iff.mp h
  obtain ⟨x, e_x, h⟩ := Option.bind_eq_some_iff.mp h
  rw [q_pI_s e_y, q_pI_s e_x]
  intro H locs ls hP hS hl hL hst
  exact lv_ishl cx.1 cx.2.1 (q_dd ho) (hg _ _ _ _ h H locs ls hP hS hl hL ⟨rfl, hst.2.2⟩)
theorem z_26 (cx : q_Cx mt p s m meth c args k D cy n ad A R cells slots) (hg : ∀ pc L st σ, g pc L st σ = some r → q_W mt p l e R s m args below meth c Q D cy ad n A k cells slots pc L st σ) (ho : q_okB mt k pc (26, ox, oa, ob, ol) = true) (h : q_stp n g cal pc (26, ox, oa, ob, ol) L st σ = some r) : q_W mt p l e R s m args below meth c Q D cy ad n A k cells slots pc L st σ := by
  replace ho : q_dc (mt k).2.1 pc .ishr 1 = true := ho
  replace h : ((q_pI st).bind fun y => (q_pI y.2).bind fun x => g (pc + 1) L (.inl (x.1 >>> (y.1 &&& 31)) :: x.2) σ) = some r := h
  obtain ⟨y, e_y, h⟩ := Option.bind_eq_some_iff.mp h
  obtain ⟨x, e_x, h⟩ := Option.bind_eq_some_iff.mp h
  rw [q_pI_s e_y, q_pI_s e_x]
  intro H locs ls hP hS hl hL hst
  exact lv_ishr cx.1 cx.2.1 (q_dd ho) (hg _ _ _ _ h H locs ls hP hS hl hL ⟨rfl, hst.2.2⟩)
theorem z_22 (cx : q_Cx mt p s m meth c args k D cy n ad A R cells slots) (hg : ∀ pc L st σ, g pc L st σ = some r → q_W mt p l e R s m args below meth c Q D cy ad n A k cells slots pc L st σ) (ho : q_okB mt k pc (22, ox, oa, ob, ol) = true) (h : q_stp n g cal pc (22, ox, oa, ob, ol) L st σ = some r) : q_W mt p l e R s m args below meth c Q D cy ad n A k cells slots pc L st σ := by
  replace ho : q_dc (mt k).2.1 pc .irem 1 = true := ho
  replace h : ((q_pI st).bind fun y => (q_pI y.2).bind fun x => if y.1 = 0 then none else g (pc + 1) L (.inl (x.1 - x.1 / y.1 * y.1) :: x.2) σ) = some r := h
  obtain ⟨y, e_y, h⟩ := Option.bind_eq_some_iff.mp h
  obtain ⟨x, e_x, h⟩ := Option.bind_eq_some_iff.mp h
  rw [q_pI_s e_y, q_pI_s e_x]
  by_cases hz : y.1 = 0
  · rw [if_pos hz] at h
    cases h
  rw [if_neg hz] at h
  intro H locs ls hP hS hl hL hst
  exact lv_irem cx.1 cx.2.1 (q_dd ho) hz (hg _ _ _ _ h H locs ls hP hS hl hL ⟨rfl, hst.2.2⟩)
theorem z_27 (cx : q_Cx mt p s m meth c args k D cy n ad A R cells slots) (hg : ∀ pc L st σ, g pc L st σ = some r → q_W mt p l e R s m args below meth c Q D cy ad n A k cells slots pc L st σ) (ho : q_okB mt k pc (27, ox, oa, ob, ol) = true) (h : q_stp n g cal pc (27, ox, oa, ob, ol) L st σ = some r) : q_W mt p l e R s m args below meth c Q D cy ad n A k cells slots pc L st σ := by
  replace ho : q_dc (mt k).2.1 pc .ladd 1 = true := ho
  replace h : ((q_pL st).bind fun y => (q_pL y.2).bind fun x => g (pc + 1) L (.inr (.inl (x.1 + y.1)) :: x.2) σ) = some r := h
  obtain ⟨y, e_y, h⟩ := Option.bind_eq_some_iff.mp h
  obtain ⟨x, e_x, h⟩ := Option.bind_eq_some_iff.mp h
  rw [q_pL_s e_y, q_pL_s e_x]
  intro H locs ls hP hS hl hL hst
  exact lv_ladd cx.1 cx.2.1 (q_dd ho) (hg _ _ _ _ h H locs ls hP hS hl hL ⟨rfl, hst.2.2⟩)
theorem z_28 (cx : q_Cx mt p s m meth c args k D cy n ad A R cells slots) (hg : ∀ pc L st σ, g pc L st σ = some r → q_W mt p l e R s m args below meth c Q D cy ad n A k cells slots pc L st σ) (ho : q_okB mt k pc (28, ox, oa, ob, ol) = true) (h : q_stp n g cal pc (28, ox, oa, ob, ol) L st σ = some r) : q_W mt p l e R s m args below meth c Q D cy ad n A k cells slots pc L st σ := by
  replace ho : q_dc (mt k).2.1 pc .land 1 = true := ho
  replace h : ((q_pL st).bind fun y => (q_pL y.2).bind fun x => g (pc + 1) L (.inr (.inl (x.1 &&& y.1)) :: x.2) σ) = some r := h
  obtain ⟨y, e_y, h⟩ := Option.bind_eq_some_iff.mp h
  obtain ⟨x, e_x, h⟩ := Option.bind_eq_some_iff.mp h
  rw [q_pL_s e_y, q_pL_s e_x]
  intro H locs ls hP hS hl hL hst
  exact lv_land cx.1 cx.2.1 (q_dd ho) (hg _ _ _ _ h H locs ls hP hS hl hL ⟨rfl, hst.2.2⟩)
theorem z_29 (cx : q_Cx mt p s m meth c args k D cy n ad A R cells slots) (hg : ∀ pc L st σ, g pc L st σ = some r → q_W mt p l e R s m args below meth c Q D cy ad n A k cells slots pc L st σ) (ho : q_okB mt k pc (29, ox, oa, ob, ol) = true) (h : q_stp n g cal pc (29, ox, oa, ob, ol) L st σ = some r) : q_W mt p l e R s m args below meth c Q D cy ad n A k cells slots pc L st σ := by
  replace ho : q_dc (mt k).2.1 pc .lor 1 = true := ho
  replace h : ((q_pL st).bind fun y => (q_pL y.2).bind fun x => g (pc + 1) L (.inr (.inl (x.1 ||| y.1)) :: x.2) σ) = some r := h
  obtain ⟨y, e_y, h⟩ := Option.bind_eq_some_iff.mp h
  obtain ⟨x, e_x, h⟩ := Option.bind_eq_some_iff.mp h
  rw [q_pL_s e_y, q_pL_s e_x]
  intro H locs ls hP hS hl hL hst
  exact lv_lor cx.1 cx.2.1 (q_dd ho) (hg _ _ _ _ h H locs ls hP hS hl hL ⟨rfl, hst.2.2⟩)
theorem z_30 (cx : q_Cx mt p s m meth c args k D cy n ad A R cells slots) (hg : ∀ pc L st σ, g pc L st σ = some r → q_W mt p l e R s m args below meth c Q D cy ad n A k cells slots pc L st σ) (ho : q_okB mt k pc (30, ox, oa, ob, ol) = true) (h : q_stp n g cal pc (30, ox, oa, ob, ol) L st σ = some r) : q_W mt p l e R s m args below meth c Q D cy ad n A k cells slots pc L st σ := by
  replace ho : q_dc (mt k).2.1 pc .lshl 1 = true := ho
  replace h : ((q_pI st).bind fun y => (q_pL y.2).bind fun x => g (pc + 1) L (.inr (.inl (x.1 <<< (y.1.toInt64 &&& 63))) :: x.2) σ) = some r := h
  obtain ⟨y, e_y, h⟩ := Option.bind_eq_some_iff.mp h
  obtain ⟨x, e_x, h⟩ := Option.bind_eq_some_iff.mp h
  rw [q_pI_s e_y, q_pL_s e_x]
  intro H locs ls hP hS hl hL hst
  exact lv_lshl cx.1 cx.2.1 (q_dd ho) rfl (hg _ _ _ _ h H locs ls hP hS hl hL ⟨rfl, hst.2.2⟩)
theorem z_31 (cx : q_Cx mt p s m meth c args k D cy n ad A R cells slots) (hg : ∀ pc L st σ, g pc L st σ = some r → q_W mt p l e R s m args below meth c Q D cy ad n A k cells slots pc L st σ) (ho : q_okB mt k pc (31, ox, oa, ob, ol) = true) (h : q_stp n g cal pc (31, ox, oa, ob, ol) L st σ = some r) : q_W mt p l e R s m args below meth c Q D cy ad n A k cells slots pc L st σ := by
  replace ho : q_dc (mt k).2.1 pc .lshr 1 = true := ho
  replace h : ((q_pI st).bind fun y => (q_pL y.2).bind fun x => g (pc + 1) L (.inr (.inl (x.1 >>> (y.1.toInt64 &&& 63))) :: x.2) σ) = some r := h
  obtain ⟨y, e_y, h⟩ := Option.bind_eq_some_iff.mp h
  obtain ⟨x, e_x, h⟩ := Option.bind_eq_some_iff.mp h
  rw [q_pI_s e_y, q_pL_s e_x]
  intro H locs ls hP hS hl hL hst
  exact lv_lshr cx.1 cx.2.1 (q_dd ho) rfl (hg _ _ _ _ h H locs ls hP hS hl hL ⟨rfl, hst.2.2⟩)
theorem z_32 (cx : q_Cx mt p s m meth c args k D cy n ad A R cells slots) (hg : ∀ pc L st σ, g pc L st σ = some r → q_W mt p l e R s m args below meth c Q D cy ad n A k cells slots pc L st σ) (ho : q_okB mt k pc (32, ox, oa, ob, ol) = true) (h : q_stp n g cal pc (32, ox, oa, ob, ol) L st σ = some r) : q_W mt p l e R s m args below meth c Q D cy ad n A k cells slots pc L st σ := by
  replace ho : q_dc (mt k).2.1 pc .lushr 1 = true := ho
  replace h : ((q_pI st).bind fun y => (q_pL y.2).bind fun x => g (pc + 1) L (.inr (.inl ((x.1.toUInt64 >>> (y.1.toInt64.toUInt64 &&& Int64.toUInt64 63)).toInt64)) :: x.2) σ) = some r := h
  obtain ⟨y, e_y, h⟩ := Option.bind_eq_some_iff.mp h
  obtain ⟨x, e_x, h⟩ := Option.bind_eq_some_iff.mp h
  rw [q_pI_s e_y, q_pL_s e_x]
  intro H locs ls hP hS hl hL hst
  exact lv_lushr cx.1 cx.2.1 (q_dd ho) rfl (hg _ _ _ _ h H locs ls hP hS hl hL ⟨rfl, hst.2.2⟩)
theorem z_33 (cx : q_Cx mt p s m meth c args k D cy n ad A R cells slots) (hg : ∀ pc L st σ, g pc L st σ = some r → q_W mt p l e R s m args below meth c Q D cy ad n A k cells slots pc L st σ) (ho : q_okB mt k pc (33, ox, oa, ob, ol) = true) (h : q_stp n g cal pc (33, ox, oa, ob, ol) L st σ = some r) : q_W mt p l e R s m args below meth c Q D cy ad n A k cells slots pc L st σ := by
  replace ho : q_dc (mt k).2.1 pc .i2l 1 = true := ho
  replace h : ((q_pI st).bind fun x => g (pc + 1) L (.inr (.inl x.1.toInt64) :: x.2) σ) = some r := h
  obtain ⟨x, e_x, h⟩ := Option.bind_eq_some_iff.mp h
  rw [q_pI_s e_x]
  intro H locs ls hP hS hl hL hst
  exact lv_i2l cx.1 cx.2.1 (q_dd ho) rfl (hg _ _ _ _ h H locs ls hP hS hl hL ⟨rfl, hst.2⟩)
theorem z_34 (cx : q_Cx mt p s m meth c args k D cy n ad A R cells slots) (hg : ∀ pc L st σ, g pc L st σ = some r → q_W mt p l e R s m args below meth c Q D cy ad n A k cells slots pc L st σ) (ho : q_okB mt k pc (34, ox, oa, ob, ol) = true) (h : q_stp n g cal pc (34, ox, oa, ob, ol) L st σ = some r) : q_W mt p l e R s m args below meth c Q D cy ad n A k cells slots pc L st σ := by
  replace ho : q_dc (mt k).2.1 pc .l2i 1 = true := ho
  replace h : ((q_pL st).bind fun x => g (pc + 1) L (.inl x.1.toInt32 :: x.2) σ) = some r := h
  obtain ⟨x, e_x, h⟩ := Option.bind_eq_some_iff.mp h
  rw [q_pL_s e_x]
  intro H locs ls hP hS hl hL hst
  exact lv_l2i cx.1 cx.2.1 (q_dd ho) rfl (hg _ _ _ _ h H locs ls hP hS hl hL ⟨rfl, hst.2⟩)
theorem z_35 (cx : q_Cx mt p s m meth c args k D cy n ad A R cells slots) (hg : ∀ pc L st σ, g pc L st σ = some r → q_W mt p l e R s m args below meth c Q D cy ad n A k cells slots pc L st σ) (ho : q_okB mt k pc (35, ox, oa, ob, ol) = true) (h : q_stp n g cal pc (35, ox, oa, ob, ol) L st σ = some r) : q_W mt p l e R s m args below meth c Q D cy ad n A k cells slots pc L st σ := by
  replace ho : q_dc (mt k).2.1 pc .lcmp 1 = true := ho
  replace h : ((q_pL st).bind fun y => (q_pL y.2).bind fun x => g (pc + 1) L (.inl (lg_cmp x.1 y.1) :: x.2) σ) = some r := h
  obtain ⟨y, e_y, h⟩ := Option.bind_eq_some_iff.mp h
  obtain ⟨x, e_x, h⟩ := Option.bind_eq_some_iff.mp h
  rw [q_pL_s e_y, q_pL_s e_x]
  intro H locs ls hP hS hl hL hst
  exact W.lcmp cx.1 cx.2.1 (q_dd ho) (hg _ _ _ _ h H locs ls hP hS hl hL ⟨rfl, hst.2.2⟩)
theorem z_36 (cx : q_Cx mt p s m meth c args k D cy n ad A R cells slots) (hg : ∀ pc L st σ, g pc L st σ = some r → q_W mt p l e R s m args below meth c Q D cy ad n A k cells slots pc L st σ) (ho : q_okB mt k pc (36, ox, oa, ob, ol) = true) (h : q_stp n g cal pc (36, ox, oa, ob, ol) L st σ = some r) : q_W mt p l e R s m args below meth c Q D cy ad n A k cells slots pc L st σ := by
  replace ho : q_dc (mt k).2.1 pc .dup 1 = true := ho
  replace h : ((q_p1 st).bind fun x => g (pc + 1) L (x.1 :: x.1 :: x.2) σ) = some r := h
  obtain ⟨x, e_x, h⟩ := Option.bind_eq_some_iff.mp h
  rw [q_p1_s e_x]
  intro H locs ls hP hS hl hL hst
  exact lv_dup cx.1 cx.2.1 (q_dd ho) (q_p1_c e_x) (hg _ _ _ _ h H locs ls hP hS hl hL ⟨hst.1, hst⟩)
theorem z_37 (cx : q_Cx mt p s m meth c args k D cy n ad A R cells slots) (hg : ∀ pc L st σ, g pc L st σ = some r → q_W mt p l e R s m args below meth c Q D cy ad n A k cells slots pc L st σ) (ho : q_okB mt k pc (37, ox, oa, ob, ol) = true) (h : q_stp n g cal pc (37, ox, oa, ob, ol) L st σ = some r) : q_W mt p l e R s m args below meth c Q D cy ad n A k cells slots pc L st σ := by
  replace ho : q_dc (mt k).2.1 pc .pop 1 = true := ho
  replace h : ((q_p1 st).bind fun x => g (pc + 1) L x.2 σ) = some r := h
  obtain ⟨x, e_x, h⟩ := Option.bind_eq_some_iff.mp h
  rw [q_p1_s e_x]
  intro H locs ls hP hS hl hL hst
  exact lv_pop cx.1 cx.2.1 (q_dd ho) (q_p1_c e_x) (hg _ _ _ _ h H locs ls hP hS hl hL hst.2)
theorem z_38 (cx : q_Cx mt p s m meth c args k D cy n ad A R cells slots) (hg : ∀ pc L st σ, g pc L st σ = some r → q_W mt p l e R s m args below meth c Q D cy ad n A k cells slots pc L st σ) (ho : q_okB mt k pc (38, ox, oa, ob, ol) = true) (h : q_stp n g cal pc (38, ox, oa, ob, ol) L st σ = some r) : q_W mt p l e R s m args below meth c Q D cy ad n A k cells slots pc L st σ := by
  replace ho : q_dc (mt k).2.1 pc .dup2 1 = true := ho
  replace h : ((q_p1 st).bind fun x => (q_p1 x.2).bind fun y => g (pc + 1) L (x.1 :: y.1 :: x.1 :: y.1 :: y.2) σ) = some r := h
  obtain ⟨x, e_x, h⟩ := Option.bind_eq_some_iff.mp h
  obtain ⟨y, e_y, h⟩ := Option.bind_eq_some_iff.mp h
  rw [q_p1_s e_x, q_p1_s e_y]
  intro H locs ls hP hS hl hL hst
  exact lv_dup2_11 cx.1 cx.2.1 (q_dd ho) (q_p1_c e_x) (q_p1_c e_y) (hg _ _ _ _ h H locs ls hP hS hl hL ⟨hst.1, hst.2.1, hst⟩)
theorem z_39 (cx : q_Cx mt p s m meth c args k D cy n ad A R cells slots) (hg : ∀ pc L st σ, g pc L st σ = some r → q_W mt p l e R s m args below meth c Q D cy ad n A k cells slots pc L st σ) (ho : q_okB mt k pc (39, ox, oa, ob, ol) = true) (h : q_stp n g cal pc (39, ox, oa, ob, ol) L st σ = some r) : q_W mt p l e R s m args below meth c Q D cy ad n A k cells slots pc L st σ := by
  replace ho : q_dc (mt k).2.1 pc .aconst_null 1 = true := ho
  replace h : (g (pc + 1) L (.inr (.inr none) :: st) σ) = some r := h
  intro H locs ls hP hS hl hL hst
  exact lv_null cx.1 cx.2.1 (q_dd ho) (hg _ _ _ _ h H locs ls hP hS hl hL ⟨rfl, hst⟩)
theorem z_40 (cx : q_Cx mt p s m meth c args k D cy n ad A R cells slots) (hg : ∀ pc L st σ, g pc L st σ = some r → q_W mt p l e R s m args below meth c Q D cy ad n A k cells slots pc L st σ) (ho : q_okB mt k pc (40, ox, oa, ob, ol) = true) (h : q_stp n g cal pc (40, ox, oa, ob, ol) L st σ = some r) : q_W mt p l e R s m args below meth c Q D cy ad n A k cells slots pc L st σ := by
  replace ho : (q_dc (mt k).2.1 pc (.ifnull ox) 3 && q_tg pc ox oa) = true := ho
  simp only [Bool.and_eq_true] at ho
  replace h : ((q_pN st).bind fun x => match x.1 with
    | none => g oa L x.2 σ
    | some _ => g (pc + 3) L x.2 σ) = some r := h
  obtain ⟨x, e_x, h⟩ := Option.bind_eq_some_iff.mp h
  rw [q_pN_s e_x]
  obtain ⟨x1, x2⟩ := x
  intro H locs ls hP hS hl hL hst
  have ht := of_decide_eq_true ho.2
  cases x1 with
  | none => exact lv_ifnullN cx.1 cx.2.1 (q_dd ho.1) ht (hg _ _ _ _ h H locs ls hP hS hl hL hst.2)
  | some q => exact lv_ifnull cx.1 cx.2.1 (q_dd ho.1) (hg _ _ _ _ h H locs ls hP hS hl hL hst.2)
theorem z_41 (cx : q_Cx mt p s m meth c args k D cy n ad A R cells slots) (hg : ∀ pc L st σ, g pc L st σ = some r → q_W mt p l e R s m args below meth c Q D cy ad n A k cells slots pc L st σ) (ho : q_okB mt k pc (41, ox, oa, ob, ol) = true) (h : q_stp n g cal pc (41, ox, oa, ob, ol) L st σ = some r) : q_W mt p l e R s m args below meth c Q D cy ad n A k cells slots pc L st σ := by
  replace ho : (q_dc (mt k).2.1 pc (.ifnonnull ox) 3 && q_tg pc ox oa) = true := ho
  simp only [Bool.and_eq_true] at ho
  replace h : ((q_pN st).bind fun x => match x.1 with
    | none => g (pc + 3) L x.2 σ
    | some _ => g oa L x.2 σ) = some r := h
  obtain ⟨x, e_x, h⟩ := Option.bind_eq_some_iff.mp h
  rw [q_pN_s e_x]
  obtain ⟨x1, x2⟩ := x
  intro H locs ls hP hS hl hL hst
  have ht := of_decide_eq_true ho.2
  cases x1 with
  | none => exact lv_ifnonnullN cx.1 cx.2.1 (q_dd ho.1) (hg _ _ _ _ h H locs ls hP hS hl hL hst.2)
  | some q => exact lv_ifnonnull cx.1 cx.2.1 (q_dd ho.1) ht (hg _ _ _ _ h H locs ls hP hS hl hL hst.2)
theorem z_42 (cx : q_Cx mt p s m meth c args k D cy n ad A R cells slots) (hg : ∀ pc L st σ, g pc L st σ = some r → q_W mt p l e R s m args below meth c Q D cy ad n A k cells slots pc L st σ) (ho : q_okB mt k pc (42, ox, oa, ob, ol) = true) (h : q_stp n g cal pc (42, ox, oa, ob, ol) L st σ = some r) : q_W mt p l e R s m args below meth c Q D cy ad n A k cells slots pc L st σ := by
  replace ho : (q_dc (mt k).2.1 pc (.goto ox) 3 && q_tg pc ox oa) = true := ho
  simp only [Bool.and_eq_true] at ho
  replace h : g oa L st σ = some r := h
  intro H locs ls hP hS hl hL hst
  exact lv_goto cx.1 cx.2.1 (q_dd ho.1) (of_decide_eq_true ho.2) (hg _ _ _ _ h H locs ls hP hS hl hL hst)
theorem z_43 (cx : q_Cx mt p s m meth c args k D cy n ad A R cells slots) (hg : ∀ pc L st σ, g pc L st σ = some r → q_W mt p l e R s m args below meth c Q D cy ad n A k cells slots pc L st σ) (ho : q_okB mt k pc (43, ox, oa, ob, ol) = true) (h : q_stp n g cal pc (43, ox, oa, ob, ol) L st σ = some r) : q_W mt p l e R s m args below meth c Q D cy ad n A k cells slots pc L st σ := by
  replace ho : (q_dc (mt k).2.1 pc (.ifCond .eq ox) 3 && q_tg pc ox oa) = true := ho
  simp only [Bool.and_eq_true] at ho
  replace h : ((q_pI st).bind fun x => if x.1 = 0 then g oa L x.2 σ else g (pc + 3) L x.2 σ) = some r := h
  obtain ⟨x, e_x, h⟩ := Option.bind_eq_some_iff.mp h
  rw [q_pI_s e_x]
  intro H locs ls hP hS hl hL hst
  exact lv_if_eq cx.1 cx.2.1 (q_dd ho.1) (of_decide_eq_true ho.2) (fun hc => hg _ _ _ _ ((if_pos hc).symm.trans h) H locs ls hP hS hl hL hst.2) (fun hc => hg _ _ _ _ ((if_neg hc).symm.trans h) H locs ls hP hS hl hL hst.2)
theorem z_44 (cx : q_Cx mt p s m meth c args k D cy n ad A R cells slots) (hg : ∀ pc L st σ, g pc L st σ = some r → q_W mt p l e R s m args below meth c Q D cy ad n A k cells slots pc L st σ) (ho : q_okB mt k pc (44, ox, oa, ob, ol) = true) (h : q_stp n g cal pc (44, ox, oa, ob, ol) L st σ = some r) : q_W mt p l e R s m args below meth c Q D cy ad n A k cells slots pc L st σ := by
  replace ho : (q_dc (mt k).2.1 pc (.ifCond .ne ox) 3 && q_tg pc ox oa) = true := ho
  simp only [Bool.and_eq_true] at ho
  replace h : ((q_pI st).bind fun x => if x.1 = 0 then g (pc + 3) L x.2 σ else g oa L x.2 σ) = some r := h
  obtain ⟨x, e_x, h⟩ := Option.bind_eq_some_iff.mp h
  rw [q_pI_s e_x]
  intro H locs ls hP hS hl hL hst
  exact lv_if_ne cx.1 cx.2.1 (q_dd ho.1) (of_decide_eq_true ho.2) (fun hc => hg _ _ _ _ ((if_neg hc).symm.trans h) H locs ls hP hS hl hL hst.2) (fun hc => hg _ _ _ _ ((if_pos hc).symm.trans h) H locs ls hP hS hl hL hst.2)
theorem z_45 (cx : q_Cx mt p s m meth c args k D cy n ad A R cells slots) (hg : ∀ pc L st σ, g pc L st σ = some r → q_W mt p l e R s m args below meth c Q D cy ad n A k cells slots pc L st σ) (ho : q_okB mt k pc (45, ox, oa, ob, ol) = true) (h : q_stp n g cal pc (45, ox, oa, ob, ol) L st σ = some r) : q_W mt p l e R s m args below meth c Q D cy ad n A k cells slots pc L st σ := by
  replace ho : (q_dc (mt k).2.1 pc (.ifCond .lt ox) 3 && q_tg pc ox oa) = true := ho
  simp only [Bool.and_eq_true] at ho
  replace h : ((q_pI st).bind fun x => if x.1 < 0 then g oa L x.2 σ else g (pc + 3) L x.2 σ) = some r := h
  obtain ⟨x, e_x, h⟩ := Option.bind_eq_some_iff.mp h
  rw [q_pI_s e_x]
  intro H locs ls hP hS hl hL hst
  exact lv_if_lt cx.1 cx.2.1 (q_dd ho.1) (of_decide_eq_true ho.2) (fun hc => hg _ _ _ _ ((if_pos hc).symm.trans h) H locs ls hP hS hl hL hst.2) (fun hc => hg _ _ _ _ ((if_neg hc).symm.trans h) H locs ls hP hS hl hL hst.2)
theorem z_46 (cx : q_Cx mt p s m meth c args k D cy n ad A R cells slots) (hg : ∀ pc L st σ, g pc L st σ = some r → q_W mt p l e R s m args below meth c Q D cy ad n A k cells slots pc L st σ) (ho : q_okB mt k pc (46, ox, oa, ob, ol) = true) (h : q_stp n g cal pc (46, ox, oa, ob, ol) L st σ = some r) : q_W mt p l e R s m args below meth c Q D cy ad n A k cells slots pc L st σ := by
  replace ho : (q_dc (mt k).2.1 pc (.ifCond .ge ox) 3 && q_tg pc ox oa) = true := ho
  simp only [Bool.and_eq_true] at ho
  replace h : ((q_pI st).bind fun x => if 0 ≤ x.1 then g oa L x.2 σ else g (pc + 3) L x.2 σ) = some r := h
  obtain ⟨x, e_x, h⟩ := Option.bind_eq_some_iff.mp h
  rw [q_pI_s e_x]
  intro H locs ls hP hS hl hL hst
  exact lv_if_ge cx.1 cx.2.1 (q_dd ho.1) (of_decide_eq_true ho.2) (fun hc => hg _ _ _ _ ((if_pos hc).symm.trans h) H locs ls hP hS hl hL hst.2) (fun hc => hg _ _ _ _ ((if_neg hc).symm.trans h) H locs ls hP hS hl hL hst.2)
theorem z_47 (cx : q_Cx mt p s m meth c args k D cy n ad A R cells slots) (hg : ∀ pc L st σ, g pc L st σ = some r → q_W mt p l e R s m args below meth c Q D cy ad n A k cells slots pc L st σ) (ho : q_okB mt k pc (47, ox, oa, ob, ol) = true) (h : q_stp n g cal pc (47, ox, oa, ob, ol) L st σ = some r) : q_W mt p l e R s m args below meth c Q D cy ad n A k cells slots pc L st σ := by
  replace ho : (q_dc (mt k).2.1 pc (.ifCond .gt ox) 3 && q_tg pc ox oa) = true := ho
  simp only [Bool.and_eq_true] at ho
  replace h : ((q_pI st).bind fun x => if 0 < x.1 then g oa L x.2 σ else g (pc + 3) L x.2 σ) = some r := h
  obtain ⟨x, e_x, h⟩ := Option.bind_eq_some_iff.mp h
  rw [q_pI_s e_x]
  intro H locs ls hP hS hl hL hst
  exact lv_if_gt cx.1 cx.2.1 (q_dd ho.1) (of_decide_eq_true ho.2) (fun hc => hg _ _ _ _ ((if_pos hc).symm.trans h) H locs ls hP hS hl hL hst.2) (fun hc => hg _ _ _ _ ((if_neg hc).symm.trans h) H locs ls hP hS hl hL hst.2)
theorem z_48 (cx : q_Cx mt p s m meth c args k D cy n ad A R cells slots) (hg : ∀ pc L st σ, g pc L st σ = some r → q_W mt p l e R s m args below meth c Q D cy ad n A k cells slots pc L st σ) (ho : q_okB mt k pc (48, ox, oa, ob, ol) = true) (h : q_stp n g cal pc (48, ox, oa, ob, ol) L st σ = some r) : q_W mt p l e R s m args below meth c Q D cy ad n A k cells slots pc L st σ := by
  replace ho : (q_dc (mt k).2.1 pc (.ifCond .le ox) 3 && q_tg pc ox oa) = true := ho
  simp only [Bool.and_eq_true] at ho
  replace h : ((q_pI st).bind fun x => if x.1 ≤ 0 then g oa L x.2 σ else g (pc + 3) L x.2 σ) = some r := h
  obtain ⟨x, e_x, h⟩ := Option.bind_eq_some_iff.mp h
  rw [q_pI_s e_x]
  intro H locs ls hP hS hl hL hst
  exact lv_if_le cx.1 cx.2.1 (q_dd ho.1) (of_decide_eq_true ho.2) (fun hc => hg _ _ _ _ ((if_pos hc).symm.trans h) H locs ls hP hS hl hL hst.2) (fun hc => hg _ _ _ _ ((if_neg hc).symm.trans h) H locs ls hP hS hl hL hst.2)
theorem z_49 (cx : q_Cx mt p s m meth c args k D cy n ad A R cells slots) (hg : ∀ pc L st σ, g pc L st σ = some r → q_W mt p l e R s m args below meth c Q D cy ad n A k cells slots pc L st σ) (ho : q_okB mt k pc (49, ox, oa, ob, ol) = true) (h : q_stp n g cal pc (49, ox, oa, ob, ol) L st σ = some r) : q_W mt p l e R s m args below meth c Q D cy ad n A k cells slots pc L st σ := by
  replace ho : (q_dc (mt k).2.1 pc (.if_icmp .eq ox) 3 && q_tg pc ox oa) = true := ho
  simp only [Bool.and_eq_true] at ho
  replace h : ((q_pI st).bind fun y => (q_pI y.2).bind fun x => if x.1 = y.1 then g oa L x.2 σ else g (pc + 3) L x.2 σ) = some r := h
  obtain ⟨y, e_y, h⟩ := Option.bind_eq_some_iff.mp h
  obtain ⟨x, e_x, h⟩ := Option.bind_eq_some_iff.mp h
  rw [q_pI_s e_y, q_pI_s e_x]
  intro H locs ls hP hS hl hL hst
  exact lv_icmp_eq cx.1 cx.2.1 (q_dd ho.1) (of_decide_eq_true ho.2) (fun hc => hg _ _ _ _ ((if_pos hc).symm.trans h) H locs ls hP hS hl hL hst.2.2) (fun hc => hg _ _ _ _ ((if_neg hc).symm.trans h) H locs ls hP hS hl hL hst.2.2)
theorem z_50 (cx : q_Cx mt p s m meth c args k D cy n ad A R cells slots) (hg : ∀ pc L st σ, g pc L st σ = some r → q_W mt p l e R s m args below meth c Q D cy ad n A k cells slots pc L st σ) (ho : q_okB mt k pc (50, ox, oa, ob, ol) = true) (h : q_stp n g cal pc (50, ox, oa, ob, ol) L st σ = some r) : q_W mt p l e R s m args below meth c Q D cy ad n A k cells slots pc L st σ := by
  replace ho : (q_dc (mt k).2.1 pc (.if_icmp .ne ox) 3 && q_tg pc ox oa) = true := ho
  simp only [Bool.and_eq_true] at ho
  replace h : ((q_pI st).bind fun y => (q_pI y.2).bind fun x => if x.1 = y.1 then g (pc + 3) L x.2 σ else g oa L x.2 σ) = some r := h
  obtain ⟨y, e_y, h⟩ := Option.bind_eq_some_iff.mp h
  obtain ⟨x, e_x, h⟩ := Option.bind_eq_some_iff.mp h
  rw [q_pI_s e_y, q_pI_s e_x]
  intro H locs ls hP hS hl hL hst
  exact lv_icmp_ne cx.1 cx.2.1 (q_dd ho.1) (of_decide_eq_true ho.2) (fun hc => hg _ _ _ _ ((if_neg hc).symm.trans h) H locs ls hP hS hl hL hst.2.2) (fun hc => hg _ _ _ _ ((if_pos hc).symm.trans h) H locs ls hP hS hl hL hst.2.2)
theorem z_51 (cx : q_Cx mt p s m meth c args k D cy n ad A R cells slots) (hg : ∀ pc L st σ, g pc L st σ = some r → q_W mt p l e R s m args below meth c Q D cy ad n A k cells slots pc L st σ) (ho : q_okB mt k pc (51, ox, oa, ob, ol) = true) (h : q_stp n g cal pc (51, ox, oa, ob, ol) L st σ = some r) : q_W mt p l e R s m args below meth c Q D cy ad n A k cells slots pc L st σ := by
  replace ho : (q_dc (mt k).2.1 pc (.if_icmp .lt ox) 3 && q_tg pc ox oa) = true := ho
  simp only [Bool.and_eq_true] at ho
  replace h : ((q_pI st).bind fun y => (q_pI y.2).bind fun x => if x.1 < y.1 then g oa L x.2 σ else g (pc + 3) L x.2 σ) = some r := h
  obtain ⟨y, e_y, h⟩ := Option.bind_eq_some_iff.mp h
  obtain ⟨x, e_x, h⟩ := Option.bind_eq_some_iff.mp h
  rw [q_pI_s e_y, q_pI_s e_x]
  intro H locs ls hP hS hl hL hst
  exact lv_icmp_lt cx.1 cx.2.1 (q_dd ho.1) (of_decide_eq_true ho.2) (fun hc => hg _ _ _ _ ((if_pos hc).symm.trans h) H locs ls hP hS hl hL hst.2.2) (fun hc => hg _ _ _ _ ((if_neg hc).symm.trans h) H locs ls hP hS hl hL hst.2.2)
theorem z_52 (cx : q_Cx mt p s m meth c args k D cy n ad A R cells slots) (hg : ∀ pc L st σ, g pc L st σ = some r → q_W mt p l e R s m args below meth c Q D cy ad n A k cells slots pc L st σ) (ho : q_okB mt k pc (52, ox, oa, ob, ol) = true) (h : q_stp n g cal pc (52, ox, oa, ob, ol) L st σ = some r) : q_W mt p l e R s m args below meth c Q D cy ad n A k cells slots pc L st σ := by
  replace ho : (q_dc (mt k).2.1 pc (.if_icmp .ge ox) 3 && q_tg pc ox oa) = true := ho
  simp only [Bool.and_eq_true] at ho
  replace h : ((q_pI st).bind fun y => (q_pI y.2).bind fun x => if y.1 ≤ x.1 then g oa L x.2 σ else g (pc + 3) L x.2 σ) = some r := h
  obtain ⟨y, e_y, h⟩ := Option.bind_eq_some_iff.mp h
  obtain ⟨x, e_x, h⟩ := Option.bind_eq_some_iff.mp h
  rw [q_pI_s e_y, q_pI_s e_x]
  intro H locs ls hP hS hl hL hst
  exact lv_icmp_ge cx.1 cx.2.1 (q_dd ho.1) (of_decide_eq_true ho.2) (fun hc => hg _ _ _ _ ((if_pos hc).symm.trans h) H locs ls hP hS hl hL hst.2.2) (fun hc => hg _ _ _ _ ((if_neg hc).symm.trans h) H locs ls hP hS hl hL hst.2.2)
theorem z_53 (cx : q_Cx mt p s m meth c args k D cy n ad A R cells slots) (hg : ∀ pc L st σ, g pc L st σ = some r → q_W mt p l e R s m args below meth c Q D cy ad n A k cells slots pc L st σ) (ho : q_okB mt k pc (53, ox, oa, ob, ol) = true) (h : q_stp n g cal pc (53, ox, oa, ob, ol) L st σ = some r) : q_W mt p l e R s m args below meth c Q D cy ad n A k cells slots pc L st σ := by
  replace ho : (q_dc (mt k).2.1 pc (.if_icmp .gt ox) 3 && q_tg pc ox oa) = true := ho
  simp only [Bool.and_eq_true] at ho
  replace h : ((q_pI st).bind fun y => (q_pI y.2).bind fun x => if y.1 < x.1 then g oa L x.2 σ else g (pc + 3) L x.2 σ) = some r := h
  obtain ⟨y, e_y, h⟩ := Option.bind_eq_some_iff.mp h
  obtain ⟨x, e_x, h⟩ := Option.bind_eq_some_iff.mp h
  rw [q_pI_s e_y, q_pI_s e_x]
  intro H locs ls hP hS hl hL hst
  exact lv_icmp_gt cx.1 cx.2.1 (q_dd ho.1) (of_decide_eq_true ho.2) (fun hc => hg _ _ _ _ ((if_pos hc).symm.trans h) H locs ls hP hS hl hL hst.2.2) (fun hc => hg _ _ _ _ ((if_neg hc).symm.trans h) H locs ls hP hS hl hL hst.2.2)
theorem z_54 (cx : q_Cx mt p s m meth c args k D cy n ad A R cells slots) (hg : ∀ pc L st σ, g pc L st σ = some r → q_W mt p l e R s m args below meth c Q D cy ad n A k cells slots pc L st σ) (ho : q_okB mt k pc (54, ox, oa, ob, ol) = true) (h : q_stp n g cal pc (54, ox, oa, ob, ol) L st σ = some r) : q_W mt p l e R s m args below meth c Q D cy ad n A k cells slots pc L st σ := by
  replace ho : (q_dc (mt k).2.1 pc (.if_icmp .le ox) 3 && q_tg pc ox oa) = true := ho
  simp only [Bool.and_eq_true] at ho
  replace h : ((q_pI st).bind fun y => (q_pI y.2).bind fun x => if x.1 ≤ y.1 then g oa L x.2 σ else g (pc + 3) L x.2 σ) = some r := h
  obtain ⟨y, e_y, h⟩ := Option.bind_eq_some_iff.mp h
  obtain ⟨x, e_x, h⟩ := Option.bind_eq_some_iff.mp h
  rw [q_pI_s e_y, q_pI_s e_x]
  intro H locs ls hP hS hl hL hst
  exact lv_icmp_le cx.1 cx.2.1 (q_dd ho.1) (of_decide_eq_true ho.2) (fun hc => hg _ _ _ _ ((if_pos hc).symm.trans h) H locs ls hP hS hl hL hst.2.2) (fun hc => hg _ _ _ _ ((if_neg hc).symm.trans h) H locs ls hP hS hl hL hst.2.2)
end SND
end
section
/-! Each step of the interpreter is a step of the machine: fields, rows, switches. Ours -/
theorem q_bf {α : Type} {b : Bool} {x : Option α} {r : α} (h : (bif b then x else none) = some r) : b = true ∧ x = some r := by
  cases b with
  | true => exact ⟨rfl, h⟩
  | false => cases h
theorem q_in_p {i : Int32} {n : Nat} (h : q_in i n = true) : vp_in i n := of_decide_eq_true (p := ¬ (i < 0 ∨ n ≤ i.toNatClampNeg)) h
theorem q_b1 {v : Int32} (h : v &&& 1 = v) : narrow .boolean (.int v) = .int v ∧ fits .boolean (.int v) = true := by
  have h2 : v = 0 ∨ v = 1 := by
    obtain ⟨j, hj, e⟩ := pk_andE v (m := 1) 1 (by decide)
    rw [h] at e
    rcases (show j = 0 ∨ j = 1 by omega) with rfl | rfl
    · exact Or.inl e
    · exact Or.inr e
  rcases h2 with e | e <;> rw [e] <;> exact ⟨rfl, rfl⟩
theorem cj_sA' {cy : Nat → ClassId} {ad : Nat → Nat → Nat} {n : Nat} {σ : J} {k i t : Nat} {g : Nat → Int32} {w : Nat × Nat × Nat × Nat} (h : q_ka k = some w) (hw : w.1 = t) (ht : t = 0 ∨ t = 2) : hup (cj cy ad n σ) k i (.inl (cy t, q_nn n w.2.2, .inl g)) = cj cy ad n (q_sA σ k i g) := by
  subst hw
  exact cj_sA h ht
theorem cj_sL' {cy : Nat → ClassId} {ad : Nat → Nat → Nat} {n : Nat} {σ : J} {k i t : Nat} {g : Nat → Int64} {w : Nat × Nat × Nat × Nat} (h : q_ka k = some w) (hw : w.1 = t) (ht : t = 1) : hup (cj cy ad n σ) k i (.inl (cy t, q_nn n w.2.2, .inr (.inl g))) = cj cy ad n (q_sL σ k i g) := by
  subst hw
  exact cj_sL h ht
def q_kaB (k : Nat) : Bool := match q_ka k with
  | none => true
  | some w => Nat.blt w.1 7 && (Nat.blt w.1 3 || (match q_ko w.2.1 with
    | none => false
    | some v => decide (q_tn.getD w.1 .int = .object (q_cl v.1).1)))
theorem q_kaB_all : (List.range q_kat.length).all q_kaB = true := by decide +kernel
theorem q_kaB_at {k : Nat} {w : Nat × Nat × Nat × Nat} (h : q_ka k = some w) : w.1 < 7 ∧ (2 < w.1 → ∃ v, q_ko w.2.1 = some v ∧ q_tn.getD w.1 .int = .object (q_cl v.1).1) := by
  have hk : k < q_kat.length := by
    apply Nat.lt_of_not_le
    intro hk
    unfold q_ka at h
    rw [List.getD_eq_getElem?_getD, List.getElem?_eq_none hk] at h
    cases h
  have h1 := List.all_eq_true.mp q_kaB_all k (List.mem_range.mpr hk)
  unfold q_kaB at h1
  rw [h] at h1
  simp only [Bool.and_eq_true, Bool.or_eq_true] at h1
  refine ⟨Nat.blt_eq.mp h1.1, fun h2 => ?_⟩
  rcases h1.2 with h3 | h3
  · have := Nat.blt_eq.mp h3
    omega
  · cases hv : q_ko w.2.1 with
    | none => rw [hv] at h3; cases h3
    | some v =>
      rw [hv] at h3
      exact ⟨v, rfl, of_decide_eq_true h3⟩
theorem q_ty_at (cy : Nat → ClassId) {t : Nat} (h : t < 7) : (q_ty cy)[t]? = some (cy t, q_tn.getD t .int) := by
  match t, h with
  | 0, _ => rfl
  | 1, _ => rfl
  | 2, _ => rfl
  | 3, _ => rfl
  | 4, _ => rfl
  | 5, _ => rfl
  | 6, _ => rfl
theorem q_sw_in {g : Nat → Option Res} {x : Int32} {t u : Nat} (ts : List Nat) : ∀ (lo j : Nat), x = Int32.ofNat (lo + j) → ts[j]? = some u → lo + ts.length < 2 ^ 31 → q_sw g x lo ts t = g u := by
  induction ts with
  | nil => intro lo j _ h; cases h
  | cons w r ih =>
    intro lo j hx hj hs
    cases j with
    | zero =>
      obtain rfl : w = u := Option.some.inj hj
      exact if_pos hx
    | succ j =>
      rw [List.length_cons] at hs
      have hl : j < r.length := Nat.lt_of_succ_lt_succ (List.getElem?_eq_some_iff.mp hj).1
      show (if x = Int32.ofNat lo then g w else _) = _
      rw [if_neg]
      · exact ih (lo + 1) j (by rw [hx]; congr 1; omega) hj (by omega)
      · intro e
        have h2 : nI (lo + (j + 1)) = nI lo := hx.symm.trans e
        have := (nI_eq (a := lo + (j + 1)) (b := lo) (by omega) (by omega)).mp h2
        omega
theorem q_sw_out {g : Nat → Option Res} {x : Int32} {t : Nat} (ts : List Nat) : ∀ (lo : Nat), (∀ j, j < ts.length → x ≠ Int32.ofNat (lo + j)) → q_sw g x lo ts t = g t := by
  induction ts with
  | nil => intro lo _; rfl
  | cons w r ih =>
    intro lo h
    refine (if_neg (h 0 (by simp))).trans ?_
    exact ih (lo + 1) fun j hj => by
      have := h (j + 1) (by simp; omega)
      rwa [show lo + (j + 1) = lo + 1 + j by omega] at this
section SNH
variable {mt : Nat → MRow} {p : Program} {l : Launch} {e : Env} {R : Room} {s : State} {m : MethodId} {args : Array Value} {below : List Frame} {meth : Method} {c : Code} {Q : State → Prop} {D : va_G} {cy : Nat → ClassId} {ad : Nat → Nat → Nat} {n k cells slots pc : Nat} {A : Nat → Prop} {g : Nat → PL → List PV → J → Option Res} {cal : Nat → List PV → J → Option Res} {r : Res} {L : PL} {st : List PV} {σ : J} {ox : Int} {oa ob : Nat} {ol : List Nat}
theorem z_55 (cx : q_Cx mt p s m meth c args k D cy n ad A R cells slots) (hg : ∀ pc L st σ, g pc L st σ = some r → q_W mt p l e R s m args below meth c Q D cy ad n A k cells slots pc L st σ) (ho : q_okB mt k pc (55, ox, oa, ob, ol) = true) (h : q_stp n g cal pc (55, ox, oa, ob, ol) L st σ = some r) : q_W mt p l e R s m args below meth c Q D cy ad n A k cells slots pc L st σ := by
  replace ho : (q_dc (mt k).2.1 pc (.tableswitch ox (oa : Int) ((oa + ol.tail.length : Int) - 1) ((ol.tail.map fun (t : Nat) => (t : Int) - (pc : Int)).toArray)) (ol.getD 0 0) && q_tg pc ox ob && Nat.blt (oa + ol.tail.length) 1000) = true := ho
  simp only [Bool.and_eq_true] at ho
  have hsz := Nat.blt_eq.mp ho.2
  replace h : ((q_pI st).bind fun x => q_sw (fun t => g t L x.2 σ) x.1 oa ol.tail ob) = some r := h
  obtain ⟨x, e_x, h⟩ := Option.bind_eq_some_iff.mp h
  rw [q_pI_s e_x]
  intro H locs ls hP hS hl hL hst
  by_cases hout : x.1.toInt < (oa : Int) ∨ ((oa + ol.tail.length : Int) - 1) < x.1.toInt
  · rw [q_sw_out] at h
    · exact lv_tableOut cx.1 cx.2.1 (q_dd ho.1.1) hout (of_decide_eq_true ho.1.2) (hg _ _ _ _ h H locs ls hP hS hl hL hst.2)
    · intro j hj e
      have e2 : x.1.toInt = ((oa + j : Nat) : Int) := by
        rw [e]
        exact nI_toInt (by omega)
      omega
  · have h1 : ¬ x.1.toInt < (oa : Int) := fun q => hout (Or.inl q)
    have h2 : ¬ ((oa + ol.tail.length : Int) - 1) < x.1.toInt := fun q => hout (Or.inr q)
    have hj : (x.1.toInt - (oa : Int)).toNat < ol.tail.length := by omega
    have hu : ol.tail[(x.1.toInt - (oa : Int)).toNat]? = some (ol.tail[(x.1.toInt - (oa : Int)).toNat]'hj) := List.getElem?_eq_getElem hj
    rw [q_sw_in (u := ol.tail[(x.1.toInt - (oa : Int)).toNat]'hj) ol.tail oa (x.1.toInt - (oa : Int)).toNat _ hu (by omega)] at h
    · refine lv_tableIn (off := ((ol.tail[(x.1.toInt - (oa : Int)).toNat]'hj : Nat) : Int) - (pc : Int)) cx.1 cx.2.1 (q_dd ho.1.1) h1 h2 ?_ ?_ (hg _ _ _ _ h H locs ls hP hS hl hL hst.2)
      · rw [List.getElem?_toArray, List.getElem?_map, hu]
        rfl
      · omega
    · apply Int32.toInt_inj.mp
      rw [show (Int32.ofNat (oa + (x.1.toInt - (oa : Int)).toNat)).toInt = ((oa + (x.1.toInt - (oa : Int)).toNat : Nat) : Int) from nI_toInt (by omega)]
      omega
theorem z_56 (cx : q_Cx mt p s m meth c args k D cy n ad A R cells slots) (hg : ∀ pc L st σ, g pc L st σ = some r → q_W mt p l e R s m args below meth c Q D cy ad n A k cells slots pc L st σ) (ho : q_okB mt k pc (56, ox, oa, ob, ol) = true) (h : q_stp n g cal pc (56, ox, oa, ob, ol) L st σ = some r) : q_W mt p l e R s m args below meth c Q D cy ad n A k cells slots pc L st σ := by
  replace ho : (q_dc (mt k).2.1 pc (.getfield oa) 3 && q_wd (ol.getD 1 0) (.fieldLink (mt k).1.cls oa ((q_cl (ol.getD 0 0)).2.1 ob).1 ((q_cl (ol.getD 0 0)).2.1 ob).2.1 ((q_cl (ol.getD 0 0)).2.1 ob).2.2.1)) = true := ho
  simp only [Bool.and_eq_true] at ho
  replace h : ((q_pR st).bind fun q => (q_ko q.1.1).bind fun w => bif Nat.beq w.1 (ol.getD 0 0) then (w.2[ob]?).bind fun d => g (pc + 3) L (q_fv σ q.1.1 q.1.2 ob d :: q.2) σ else none) = some r := h
  obtain ⟨q, e_q, h⟩ := Option.bind_eq_some_iff.mp h
  obtain ⟨w, e_w, h⟩ := Option.bind_eq_some_iff.mp h
  obtain ⟨hb, h⟩ := q_bf h
  obtain ⟨d, e_d, h⟩ := Option.bind_eq_some_iff.mp h
  rw [← Nat.eq_of_beq_eq_true hb] at ho
  rw [q_pR_s e_q]
  intro H locs ls hP hS hl hL hst
  have hi : (q.1.1, q.1.2) ∈ idj n := q_ok_in hst.1 (q_ko_ne e_w)
  obtain ⟨t, ht0, ht⟩ := wl_at (ad := ad) (cn := cj cy ad n σ) hi
  rw [cj_o e_w] at ht
  have hc := q_kB_at e_w
  have hk : ob < (q_cl w.1).2.2 := by
    rw [← hc.2.1]
    exact (List.getElem?_eq_some_iff.mp e_d).1
  exact va_get (Ts := gt) (v := q_tv ad (q_fv σ q.1.1 q.1.2 ob d)) cx.1 cx.2.1 cx.2.2.2.2.1 (vc_ok w.1 _ (q_cl_at hc.1)).1 cx.2.2.2.1 cx.2.2.2.2.2.1 hP t ht (q_cl_at hc.1) ob hk (cx.2.2.2.2.1 _ (q_wd_in ho.2)) (fun _ h => h) (by rw [q_fs_at, e_d, Nat.zero_add]; rfl) (q_dd ho.1) (hg _ _ _ _ h H locs ls hP hS hl hL ⟨q_fv_ok e_w e_d hi, hst.2⟩)
theorem z_57 (cx : q_Cx mt p s m meth c args k D cy n ad A R cells slots) (hg : ∀ pc L st σ, g pc L st σ = some r → q_W mt p l e R s m args below meth c Q D cy ad n A k cells slots pc L st σ) (ho : q_okB mt k pc (57, ox, oa, ob, ol) = true) (h : q_stp n g cal pc (57, ox, oa, ob, ol) L st σ = some r) : q_W mt p l e R s m args below meth c Q D cy ad n A k cells slots pc L st σ := by
  replace ho : (q_dc (mt k).2.1 pc (.putfield oa) 3 && q_wd (ol.getD 1 0) (.fieldLink (mt k).1.cls oa ((q_cl (ol.getD 0 0)).2.1 ob).1 ((q_cl (ol.getD 0 0)).2.1 ob).2.1 ((q_cl (ol.getD 0 0)).2.1 ob).2.2.1) && !((q_cl (ol.getD 0 0)).2.1 ob).2.2.2) = true := ho
  simp only [Bool.and_eq_true, Bool.not_eq_true'] at ho
  replace h : ((q_pI st).bind fun v => (q_pR v.2).bind fun q => (q_ko q.1.1).bind fun w => bif Nat.beq w.1 (ol.getD 0 0) then (w.2[ob]?).bind fun d => bif Nat.beq d.1 0 then g (pc + 3) L q.2 (q_sI σ q.1.1 ob q.1.2 v.1) else bif Nat.beq d.1 1 then if v.1 &&& 1 = v.1 then g (pc + 3) L q.2 (q_sI σ q.1.1 ob q.1.2 v.1) else none else none else none) = some r := h
  obtain ⟨v, e_v, h⟩ := Option.bind_eq_some_iff.mp h
  obtain ⟨q, e_q, h⟩ := Option.bind_eq_some_iff.mp h
  obtain ⟨w, e_w, h⟩ := Option.bind_eq_some_iff.mp h
  obtain ⟨hb, h⟩ := q_bf h
  obtain ⟨d, e_d, h⟩ := Option.bind_eq_some_iff.mp h
  rw [← Nat.eq_of_beq_eq_true hb] at ho
  rw [q_pI_s e_v, q_pR_s e_q]
  intro H locs ls hP hS hl hL hst
  have hi : (q.1.1, q.1.2) ∈ idj n := q_ok_in hst.2.1 (q_ko_ne e_w)
  obtain ⟨t, ht0, ht⟩ := wl_at (ad := ad) (cn := cj cy ad n σ) hi
  rw [cj_o e_w] at ht
  have hc := q_kB_at e_w
  have hk : ob < (q_cl w.1).2.2 := by
    rw [← hc.2.1]
    exact (List.getElem?_eq_some_iff.mp e_d).1
  obtain ⟨hin, ty0, hty, hnm⟩ := vc_ok w.1 _ (q_cl_at hc.1)
  have key : ∀ ty : FieldType, parseFieldDescriptor ((q_cl w.1).2.1 ob).2.2.1 = some ty → narrow ty (.int v.1) = .int v.1 → fits ty (.int v.1) = true → d.1 < 2 → g (pc + 3) L q.2 (q_sI σ q.1.1 ob q.1.2 v.1) = some r → W p l e R s m args below meth c H locs cells slots Q (F0 m pc ls ((.inl v.1 :: .inr (.inr (some q.1)) :: q.2 : List PV).map (q_tv ad))) := by
    intro ty hd hn hf h2 h
    refine va_put (Ts := gt) (ty := ty) (v := .int v.1) cx.1 cx.2.1 cx.2.2.2.2.1 hin ty0 hty hnm cx.2.2.2.1 cx.2.2.2.2.2.1 hP (cx.2.2.2.2.2.2.2.2.1 _) hS t ht (q_cl_at hc.1) ob hk (cx.2.2.2.2.1 _ (q_wd_in ho.1.2)) (fun _ h => h) ho.2 hd hn hf (by rw [q_fs_len]; exact (List.getElem?_eq_some_iff.mp e_d).1) (q_dd ho.1.1) (fun H1 locs1 hP1 _ hS1 => ?_)
    rw [wl_set (cx.2.2.2.2.2.2.2.2.1 _) ht0, cj_sI e_w e_d h2] at hP1
    exact hg _ _ _ _ h H1 locs1 ls hP1 hS1 hl hL hst.2.2
  cases h0 : Nat.beq d.1 0 with
  | true =>
    rw [h0] at h
    have h00 := Nat.eq_of_beq_eq_true h0
    exact key .int (by rw [(hc.2.2.2 ob d e_d).1 h00]; rfl) rfl rfl (by omega) h
  | false =>
    rw [h0] at h
    obtain ⟨h1, h⟩ := q_bf h
    have h11 := Nat.eq_of_beq_eq_true h1
    by_cases hz : v.1 &&& 1 = v.1
    · rw [if_pos hz] at h
      exact key .boolean (by rw [(hc.2.2.2 ob d e_d).2 h11]; rfl) (q_b1 hz).1 (q_b1 hz).2 (by omega) h
    · rw [if_neg hz] at h
      cases h
theorem z_58 (cx : q_Cx mt p s m meth c args k D cy n ad A R cells slots) (hg : ∀ pc L st σ, g pc L st σ = some r → q_W mt p l e R s m args below meth c Q D cy ad n A k cells slots pc L st σ) (ho : q_okB mt k pc (58, ox, oa, ob, ol) = true) (h : q_stp n g cal pc (58, ox, oa, ob, ol) L st σ = some r) : q_W mt p l e R s m args below meth c Q D cy ad n A k cells slots pc L st σ := by
  replace ho : q_dc (mt k).2.1 pc .iaload 1 = true := ho
  replace h : ((q_pI st).bind fun j => (q_pR j.2).bind fun q => (q_ka q.1.1).bind fun w => bif Nat.beq w.1 0 then bif q_in j.1 (q_nn n w.2.2) then g (pc + 1) L (.inl (σ.2.1 q.1.1 q.1.2 j.1.toNatClampNeg) :: q.2) σ else none else none) = some r := h
  obtain ⟨j, e_j, h⟩ := Option.bind_eq_some_iff.mp h
  obtain ⟨q, e_q, h⟩ := Option.bind_eq_some_iff.mp h
  obtain ⟨w, e_w, h⟩ := Option.bind_eq_some_iff.mp h
  obtain ⟨hb, h⟩ := q_bf h
  obtain ⟨hz, h⟩ := q_bf h
  rw [q_pI_s e_j, q_pR_s e_q]
  intro H locs ls hP hS hl hL hst
  have hi : (q.1.1, q.1.2) ∈ idj n := q_ok_in hst.2.1 (q_ka_ne e_w)
  obtain ⟨t, ht0, ht⟩ := wl_at (ad := ad) (cn := cj cy ad n σ) hi
  rw [cj_a e_w] at ht
  rw [show w.1 = 0 from Nat.eq_of_beq_eq_true hb] at ht
  exact va_iald cx.1 cx.2.1 cx.2.2.2.2.2.1 hP t 0 ht rfl (q_in_p hz) (q_dd ho) (hg _ _ _ _ h H locs ls hP hS hl hL ⟨rfl, hst.2.2⟩)
theorem z_59 (cx : q_Cx mt p s m meth c args k D cy n ad A R cells slots) (hg : ∀ pc L st σ, g pc L st σ = some r → q_W mt p l e R s m args below meth c Q D cy ad n A k cells slots pc L st σ) (ho : q_okB mt k pc (59, ox, oa, ob, ol) = true) (h : q_stp n g cal pc (59, ox, oa, ob, ol) L st σ = some r) : q_W mt p l e R s m args below meth c Q D cy ad n A k cells slots pc L st σ := by
  replace ho : q_dc (mt k).2.1 pc .laload 1 = true := ho
  replace h : ((q_pI st).bind fun j => (q_pR j.2).bind fun q => (q_ka q.1.1).bind fun w => bif Nat.beq w.1 1 then bif q_in j.1 (q_nn n w.2.2) then g (pc + 1) L (.inr (.inl (σ.2.2.1 q.1.1 q.1.2 j.1.toNatClampNeg)) :: q.2) σ else none else none) = some r := h
  obtain ⟨j, e_j, h⟩ := Option.bind_eq_some_iff.mp h
  obtain ⟨q, e_q, h⟩ := Option.bind_eq_some_iff.mp h
  obtain ⟨w, e_w, h⟩ := Option.bind_eq_some_iff.mp h
  obtain ⟨hb, h⟩ := q_bf h
  obtain ⟨hz, h⟩ := q_bf h
  rw [q_pI_s e_j, q_pR_s e_q]
  intro H locs ls hP hS hl hL hst
  have hi : (q.1.1, q.1.2) ∈ idj n := q_ok_in hst.2.1 (q_ka_ne e_w)
  obtain ⟨t, ht0, ht⟩ := wl_at (ad := ad) (cn := cj cy ad n σ) hi
  rw [cj_a e_w] at ht
  rw [show w.1 = 1 from Nat.eq_of_beq_eq_true hb] at ht
  exact va_lald cx.1 cx.2.1 cx.2.2.2.2.2.1 hP t 1 ht rfl (q_in_p hz) (q_dd ho) (hg _ _ _ _ h H locs ls hP hS hl hL ⟨rfl, hst.2.2⟩)
theorem z_61 (cx : q_Cx mt p s m meth c args k D cy n ad A R cells slots) (hg : ∀ pc L st σ, g pc L st σ = some r → q_W mt p l e R s m args below meth c Q D cy ad n A k cells slots pc L st σ) (ho : q_okB mt k pc (61, ox, oa, ob, ol) = true) (h : q_stp n g cal pc (61, ox, oa, ob, ol) L st σ = some r) : q_W mt p l e R s m args below meth c Q D cy ad n A k cells slots pc L st σ := by
  replace ho : q_dc (mt k).2.1 pc .baload 1 = true := ho
  replace h : ((q_pI st).bind fun j => (q_pR j.2).bind fun q => (q_ka q.1.1).bind fun w => bif Nat.beq w.1 2 then bif q_in j.1 (q_nn n w.2.2) then g (pc + 1) L (.inl (σ.2.1 q.1.1 q.1.2 j.1.toNatClampNeg) :: q.2) σ else none else none) = some r := h
  obtain ⟨j, e_j, h⟩ := Option.bind_eq_some_iff.mp h
  obtain ⟨q, e_q, h⟩ := Option.bind_eq_some_iff.mp h
  obtain ⟨w, e_w, h⟩ := Option.bind_eq_some_iff.mp h
  obtain ⟨hb, h⟩ := q_bf h
  obtain ⟨hz, h⟩ := q_bf h
  rw [q_pI_s e_j, q_pR_s e_q]
  intro H locs ls hP hS hl hL hst
  have hi : (q.1.1, q.1.2) ∈ idj n := q_ok_in hst.2.1 (q_ka_ne e_w)
  obtain ⟨t, ht0, ht⟩ := wl_at (ad := ad) (cn := cj cy ad n σ) hi
  rw [cj_a e_w] at ht
  rw [show w.1 = 2 from Nat.eq_of_beq_eq_true hb] at ht
  exact va_zald cx.1 cx.2.1 cx.2.2.2.2.2.1 hP t 2 ht rfl (q_in_p hz) (q_dd ho) (hg _ _ _ _ h H locs ls hP hS hl hL ⟨rfl, hst.2.2⟩)
theorem z_60 (cx : q_Cx mt p s m meth c args k D cy n ad A R cells slots) (hg : ∀ pc L st σ, g pc L st σ = some r → q_W mt p l e R s m args below meth c Q D cy ad n A k cells slots pc L st σ) (ho : q_okB mt k pc (60, ox, oa, ob, ol) = true) (h : q_stp n g cal pc (60, ox, oa, ob, ol) L st σ = some r) : q_W mt p l e R s m args below meth c Q D cy ad n A k cells slots pc L st σ := by
  replace ho : q_dc (mt k).2.1 pc .aaload 1 = true := ho
  replace h : ((q_pI st).bind fun j => (q_pR j.2).bind fun q => (q_ka q.1.1).bind fun w => bif Nat.blt 2 w.1 then bif q_in j.1 (q_nn n w.2.2) then bif Nat.blt (σ.2.2.2 q.1.1 q.1.2 j.1.toNatClampNeg) (q_ct n w.2.1) then g (pc + 1) L (.inr (.inr (some (w.2.1, σ.2.2.2 q.1.1 q.1.2 j.1.toNatClampNeg))) :: q.2) σ else none else none else none) = some r := h
  obtain ⟨j, e_j, h⟩ := Option.bind_eq_some_iff.mp h
  obtain ⟨q, e_q, h⟩ := Option.bind_eq_some_iff.mp h
  obtain ⟨w, e_w, h⟩ := Option.bind_eq_some_iff.mp h
  obtain ⟨hb, h⟩ := q_bf h
  obtain ⟨hz, h⟩ := q_bf h
  obtain ⟨hx, h⟩ := q_bf h
  have h2 := Nat.blt_eq.mp hb
  rw [q_pI_s e_j, q_pR_s e_q]
  intro H locs ls hP hS hl hL hst
  have hi : (q.1.1, q.1.2) ∈ idj n := q_ok_in hst.2.1 (q_ka_ne e_w)
  obtain ⟨t, ht0, ht⟩ := wl_at (ad := ad) (cn := cj cy ad n σ) hi
  rw [cj_a e_w, q_ar_q h2] at ht
  obtain ⟨hw, hw2⟩ := q_kaB_at e_w
  obtain ⟨v, hv1, hv2⟩ := hw2 h2
  have hty := q_ty_at cy hw
  rw [hv2] at hty
  exact va_aldq cx.1 cx.2.1 cx.2.2.2.2.2.1 hP t w.1 ht hty (q_in_p hz) (q_dd ho) (hg _ _ _ _ h H locs ls hP hS hl hL ⟨q_ok_b hx, hst.2.2⟩)
theorem z_62 (cx : q_Cx mt p s m meth c args k D cy n ad A R cells slots) (hg : ∀ pc L st σ, g pc L st σ = some r → q_W mt p l e R s m args below meth c Q D cy ad n A k cells slots pc L st σ) (ho : q_okB mt k pc (62, ox, oa, ob, ol) = true) (h : q_stp n g cal pc (62, ox, oa, ob, ol) L st σ = some r) : q_W mt p l e R s m args below meth c Q D cy ad n A k cells slots pc L st σ := by
  replace ho : q_dc (mt k).2.1 pc .iastore 1 = true := ho
  replace h : ((q_pI st).bind fun v => (q_pI v.2).bind fun j => (q_pR j.2).bind fun q => (q_ka q.1.1).bind fun w => bif Nat.beq w.1 0 then bif q_in j.1 (q_nn n w.2.2) then g (pc + 1) L q.2 (q_sA σ q.1.1 q.1.2 (upd (σ.2.1 q.1.1 q.1.2) j.1.toNatClampNeg v.1)) else none else none) = some r := h
  obtain ⟨v, e_v, h⟩ := Option.bind_eq_some_iff.mp h
  obtain ⟨j, e_j, h⟩ := Option.bind_eq_some_iff.mp h
  obtain ⟨q, e_q, h⟩ := Option.bind_eq_some_iff.mp h
  obtain ⟨w, e_w, h⟩ := Option.bind_eq_some_iff.mp h
  obtain ⟨hb, h⟩ := q_bf h
  obtain ⟨hz, h⟩ := q_bf h
  rw [q_pI_s e_v, q_pI_s e_j, q_pR_s e_q]
  intro H locs ls hP hS hl hL hst
  have hi : (q.1.1, q.1.2) ∈ idj n := q_ok_in hst.2.2.1 (q_ka_ne e_w)
  obtain ⟨t, ht0, ht⟩ := wl_at (ad := ad) (cn := cj cy ad n σ) hi
  rw [cj_a e_w] at ht
  have hw : w.1 = 0 := Nat.eq_of_beq_eq_true hb
  rw [hw] at ht
  refine va_iast cx.1 cx.2.1 cx.2.2.2.2.2.1 hP (cx.2.2.2.2.2.2.2.2.1 _) hS t 0 ht rfl (q_in_p hz) (q_dd ho) (fun H1 locs1 hP1 _ hS1 => ?_)
  rw [wl_set (cx.2.2.2.2.2.2.2.2.1 _) ht0, cj_sA' e_w hw (Or.inl rfl)] at hP1
  exact hg _ _ _ _ h H1 locs1 ls hP1 hS1 hl hL hst.2.2.2
theorem z_63 (cx : q_Cx mt p s m meth c args k D cy n ad A R cells slots) (hg : ∀ pc L st σ, g pc L st σ = some r → q_W mt p l e R s m args below meth c Q D cy ad n A k cells slots pc L st σ) (ho : q_okB mt k pc (63, ox, oa, ob, ol) = true) (h : q_stp n g cal pc (63, ox, oa, ob, ol) L st σ = some r) : q_W mt p l e R s m args below meth c Q D cy ad n A k cells slots pc L st σ := by
  replace ho : q_dc (mt k).2.1 pc .lastore 1 = true := ho
  replace h : ((q_pL st).bind fun v => (q_pI v.2).bind fun j => (q_pR j.2).bind fun q => (q_ka q.1.1).bind fun w => bif Nat.beq w.1 1 then bif q_in j.1 (q_nn n w.2.2) then g (pc + 1) L q.2 (q_sL σ q.1.1 q.1.2 (vp_updL (σ.2.2.1 q.1.1 q.1.2) j.1.toNatClampNeg v.1)) else none else none) = some r := h
  obtain ⟨v, e_v, h⟩ := Option.bind_eq_some_iff.mp h
  obtain ⟨j, e_j, h⟩ := Option.bind_eq_some_iff.mp h
  obtain ⟨q, e_q, h⟩ := Option.bind_eq_some_iff.mp h
  obtain ⟨w, e_w, h⟩ := Option.bind_eq_some_iff.mp h
  obtain ⟨hb, h⟩ := q_bf h
  obtain ⟨hz, h⟩ := q_bf h
  rw [q_pL_s e_v, q_pI_s e_j, q_pR_s e_q]
  intro H locs ls hP hS hl hL hst
  have hi : (q.1.1, q.1.2) ∈ idj n := q_ok_in hst.2.2.1 (q_ka_ne e_w)
  obtain ⟨t, ht0, ht⟩ := wl_at (ad := ad) (cn := cj cy ad n σ) hi
  rw [cj_a e_w] at ht
  have hw : w.1 = 1 := Nat.eq_of_beq_eq_true hb
  rw [hw] at ht
  refine va_last cx.1 cx.2.1 cx.2.2.2.2.2.1 hP (cx.2.2.2.2.2.2.2.2.1 _) hS t 1 ht rfl (q_in_p hz) (q_dd ho) (fun H1 locs1 hP1 _ hS1 => ?_)
  rw [wl_set (cx.2.2.2.2.2.2.2.2.1 _) ht0, cj_sL' e_w hw rfl] at hP1
  exact hg _ _ _ _ h H1 locs1 ls hP1 hS1 hl hL hst.2.2.2
theorem z_65 (cx : q_Cx mt p s m meth c args k D cy n ad A R cells slots) (hg : ∀ pc L st σ, g pc L st σ = some r → q_W mt p l e R s m args below meth c Q D cy ad n A k cells slots pc L st σ) (ho : q_okB mt k pc (65, ox, oa, ob, ol) = true) (h : q_stp n g cal pc (65, ox, oa, ob, ol) L st σ = some r) : q_W mt p l e R s m args below meth c Q D cy ad n A k cells slots pc L st σ := by
  replace ho : q_dc (mt k).2.1 pc .bastore 1 = true := ho
  replace h : ((q_pI st).bind fun v => (q_pI v.2).bind fun j => (q_pR j.2).bind fun q => (q_ka q.1.1).bind fun w => bif Nat.beq w.1 2 then bif q_in j.1 (q_nn n w.2.2) then if v.1 &&& 1 = v.1 then g (pc + 1) L q.2 (q_sA σ q.1.1 q.1.2 (upd (σ.2.1 q.1.1 q.1.2) j.1.toNatClampNeg v.1)) else none else none else none) = some r := h
  obtain ⟨v, e_v, h⟩ := Option.bind_eq_some_iff.mp h
  obtain ⟨j, e_j, h⟩ := Option.bind_eq_some_iff.mp h
  obtain ⟨q, e_q, h⟩ := Option.bind_eq_some_iff.mp h
  obtain ⟨w, e_w, h⟩ := Option.bind_eq_some_iff.mp h
  obtain ⟨hb, h⟩ := q_bf h
  obtain ⟨hz, h⟩ := q_bf h
  by_cases hv : ¬ (v.1 &&& 1 = v.1)
  · rw [if_neg hv] at h
    cases h
  replace hv := Classical.not_not.mp hv
  rw [if_pos hv] at h
  rw [q_pI_s e_v, q_pI_s e_j, q_pR_s e_q]
  intro H locs ls hP hS hl hL hst
  have hi : (q.1.1, q.1.2) ∈ idj n := q_ok_in hst.2.2.1 (q_ka_ne e_w)
  obtain ⟨t, ht0, ht⟩ := wl_at (ad := ad) (cn := cj cy ad n σ) hi
  rw [cj_a e_w] at ht
  have hw : w.1 = 2 := Nat.eq_of_beq_eq_true hb
  rw [hw] at ht
  refine va_zast cx.1 cx.2.1 cx.2.2.2.2.2.1 hP (cx.2.2.2.2.2.2.2.2.1 _) hS t 2 ht rfl (q_in_p hz) (q_dd ho) (fun H1 locs1 hP1 _ hS1 => ?_)
  rw [show vp_nar .boolean v.1 = v.1 from hv] at hP1
  rw [wl_set (cx.2.2.2.2.2.2.2.2.1 _) ht0, cj_sA' e_w hw (Or.inr rfl)] at hP1
  exact hg _ _ _ _ h H1 locs1 ls hP1 hS1 hl hL hst.2.2.2
theorem z_64 (cx : q_Cx mt p s m meth c args k D cy n ad A R cells slots) (hg : ∀ pc L st σ, g pc L st σ = some r → q_W mt p l e R s m args below meth c Q D cy ad n A k cells slots pc L st σ) (ho : q_okB mt k pc (64, ox, oa, ob, ol) = true) (h : q_stp n g cal pc (64, ox, oa, ob, ol) L st σ = some r) : q_W mt p l e R s m args below meth c Q D cy ad n A k cells slots pc L st σ := by
  replace ho : q_dc (mt k).2.1 pc .aastore 1 = true := ho
  replace h : ((q_pR st).bind fun v => (q_pI v.2).bind fun j => (q_pR j.2).bind fun q => (q_ka q.1.1).bind fun w => bif Nat.blt 2 w.1 && Nat.beq w.2.1 v.1.1 then bif q_in j.1 (q_nn n w.2.2) then g (pc + 1) L q.2 (q_sP σ q.1.1 q.1.2 (va_up (σ.2.2.2 q.1.1 q.1.2) j.1.toNatClampNeg v.1.2)) else none else none) = some r := h
  obtain ⟨v, e_v, h⟩ := Option.bind_eq_some_iff.mp h
  obtain ⟨j, e_j, h⟩ := Option.bind_eq_some_iff.mp h
  obtain ⟨q, e_q, h⟩ := Option.bind_eq_some_iff.mp h
  obtain ⟨w, e_w, h⟩ := Option.bind_eq_some_iff.mp h
  obtain ⟨hb, h⟩ := q_bf h
  obtain ⟨hz, h⟩ := q_bf h
  simp only [Bool.and_eq_true] at hb
  have h2 := Nat.blt_eq.mp hb.1
  have h3 := Nat.eq_of_beq_eq_true hb.2
  rw [q_pR_s e_v, q_pI_s e_j, q_pR_s e_q]
  intro H locs ls hP hS hl hL hst
  have hi : (q.1.1, q.1.2) ∈ idj n := q_ok_in hst.2.2.1 (q_ka_ne e_w)
  obtain ⟨t, ht0, ht⟩ := wl_at (ad := ad) (cn := cj cy ad n σ) hi
  rw [cj_a e_w, q_ar_q h2] at ht
  obtain ⟨hw, hw2⟩ := q_kaB_at e_w
  obtain ⟨vo, hv1, hv2⟩ := hw2 h2
  rw [h3] at hv1
  have hiv : (v.1.1, v.1.2) ∈ idj n := q_ok_in hst.1 (q_ko_ne hv1)
  obtain ⟨t2, -, ht2⟩ := wl_at (ad := ad) (cn := cj cy ad n σ) hiv
  rw [cj_o hv1] at ht2
  have hty := q_ty_at cy hw
  rw [hv2] at hty
  refine va_astq (r := ((q_cl vo.1).1, (q_cl vo.1).2.1, (q_cl vo.1).2.2)) cx.1 cx.2.1 cx.2.2.2.2.2.1 hP (cx.2.2.2.2.2.2.2.2.1 _) hS t w.1 t2 vo.1 ht hty ht2 (q_cl_at (q_kB_at hv1).1) (q_in_p hz) (q_dd ho) (fun H1 locs1 hP1 _ hS1 => ?_)
  rw [wl_set (cx.2.2.2.2.2.2.2.2.1 _) ht0, show va_up (fun i => some (ad w.2.1 (σ.2.2.2 q.1.1 q.1.2 i))) j.1.toNatClampNeg (some (ad v.1.1 v.1.2)) = (fun i => some (ad w.2.1 (va_up (σ.2.2.2 q.1.1 q.1.2) j.1.toNatClampNeg v.1.2 i))) from ?_, cj_sP e_w h2] at hP1
  · exact hg _ _ _ _ h H1 locs1 ls hP1 hS1 hl hL hst.2.2.2
  · funext i
    by_cases hq : i = j.1.toNatClampNeg
    · simp [va_up, hq, h3]
    · simp [va_up, hq]
theorem z_66 (cx : q_Cx mt p s m meth c args k D cy n ad A R cells slots) (hg : ∀ pc L st σ, g pc L st σ = some r → q_W mt p l e R s m args below meth c Q D cy ad n A k cells slots pc L st σ) (ho : q_okB mt k pc (66, ox, oa, ob, ol) = true) (h : q_stp n g cal pc (66, ox, oa, ob, ol) L st σ = some r) : q_W mt p l e R s m args below meth c Q D cy ad n A k cells slots pc L st σ := by
  replace ho : q_dc (mt k).2.1 pc .arraylength 1 = true := ho
  replace h : ((q_pR st).bind fun q => (q_ka q.1.1).bind fun w => g (pc + 1) L (.inl (Int32.ofNat (q_nn n w.2.2)) :: q.2) σ) = some r := h
  obtain ⟨q, e_q, h⟩ := Option.bind_eq_some_iff.mp h
  obtain ⟨w, e_w, h⟩ := Option.bind_eq_some_iff.mp h
  rw [q_pR_s e_q]
  intro H locs ls hP hS hl hL hst
  have hi : (q.1.1, q.1.2) ∈ idj n := q_ok_in hst.1 (q_ka_ne e_w)
  obtain ⟨t, ht0, ht⟩ := wl_at (ad := ad) (cn := cj cy ad n σ) hi
  rw [cj_a e_w] at ht
  exact va_alen cx.1 cx.2.1 cx.2.2.2.2.2.1 hP t w.1 ht (q_ty_at cy (q_kaB_at e_w).1) rfl (q_dd ho) (hg _ _ _ _ h H locs ls hP hS hl hL ⟨rfl, hst.2⟩)
end SNH
end
section
/-! Each step of the interpreter is a step of the machine: calls, copies, ends; and the whole run. Ours -/
def q_Q (D : va_G) (cy : Nat → ClassId) (ad : Nat → Nat → Nat) (n : Nat) (A : Nat → Prop) (v : Option Value) (σ : J) : Array Value → State → Outcome → State → Prop := fun _ st o t => o = .returned v ∧ WJ D cy ad n σ t.heap ∧ va_F A st t
def q_CT (l : Launch) (mt : Nat → MRow) (rm : Room) (D : va_G) (cy : Nat → ClassId) (ad : Nat → Nat → Nat) (n : Nat) (A : Nat → Prop) (k : Nat) (vs : List PV) (σ : J) (v : Option PV) (σ1 : J) : Prop :=
  Met l (mt k).1 (Cond.code (mt k).1 (mt k).2.1 (mt k).2.2.1 (mt k).2.2.2 :: gt) rm (va_Pc (vs.map (q_tv ad)) (fun U => WJ D cy ad n σ U.heap ∧ va_K D vcl (q_ty cy) U)) (q_Q D cy ad n A (v.map (q_tv ad)) σ1) 0 0 A
theorem q_oks_iff {n : Nat} {st : List PV} : q_oks n st ↔ ∀ v ∈ st, q_ok n v = true := by
  induction st with
  | nil => simp [q_oks]
  | cons v r ih => simp [q_oks, ih]
theorem q_pop_s : ∀ (j : Nat) {st : List PV} {a : List PV × List PV}, q_pop j st = some a → st = a.1.reverse ++ a.2 ∧ a.1.length = j := by
  intro j
  induction j with
  | zero => intro st a h; cases h; exact ⟨rfl, rfl⟩
  | succ j ih =>
    intro st a h
    match st, h with
    | [], h => cases h
    | v :: r, h =>
      unfold q_pop at h
      cases hq : q_pop j r with
      | none => rw [hq] at h; cases h
      | some q =>
        rw [hq] at h
        cases h
        obtain ⟨e1, e2⟩ := ih hq
        refine ⟨?_, by simp [e2]⟩
        rw [List.reverse_append, e1]
        rfl
theorem q_af_in {n : Nat} {g : List PV → J → Option Res} {rest : List PV} {z r : Res} (h : q_af n g rest z = some r) (hr : ∃ v τ, r = (.inl v, τ)) : ∃ v σ1, z = (.inl v, σ1) ∧ (∀ w, v = some w → q_ok n w = true) ∧ g (v.toList ++ rest) σ1 = some r := by
  obtain ⟨v | ex, σ1⟩ := z
  · cases v with
    | none => exact ⟨none, σ1, rfl, (fun w hw => by cases hw), h⟩
    | some v =>
      obtain ⟨h1, h2⟩ := q_bf (show (bif q_ok n v then g (v :: rest) σ1 else none) = some r from h)
      exact ⟨some v, σ1, rfl, (fun w hw => by cases hw; exact h1), h2⟩
  · have h : some (Sum.inr ex, σ1) = some r := h
    cases h
    obtain ⟨v, τ, e⟩ := hr
    cases e
theorem q_cats (ad : Nat → Nat → Nat) (st : List PV) : ((st.map (q_tv ad)).map fun v => v.category) = st.map q_cat := by
  rw [List.map_map]
  apply List.map_congr_left
  intro v _
  exact q_cat_tv ad v
theorem q_args_in {ad : Nat → Nat → Nat} {vs : List PV} : ∀ {i b : Nat} {v : PV}, q_args i vs b = some v → v ∈ vs ∧ (b, q_tv ad v) ∈ lv_args i (vs.map (q_tv ad)) := by
  induction vs with
  | nil => intro i b v h; cases h
  | cons w r ih =>
    intro i b v h
    have e : lv_args i ((w :: r).map (q_tv ad)) = (i, q_tv ad w) :: lv_args (if (q_tv ad w).category = 2 then i + 2 else i + 1) (r.map (q_tv ad)) := rfl
    rw [e, q_cat_tv]
    replace h : (bif Nat.beq b i then some w else q_args (bif Nat.beq (q_cat w) 2 then i + 2 else i + 1) r b) = some v := h
    cases hb : Nat.beq b i with
    | true =>
      rw [hb] at h
      have h : some w = some v := h
      cases h
      obtain rfl := Nat.eq_of_beq_eq_true hb
      exact ⟨List.mem_cons_self, List.mem_cons_self⟩
    | false =>
      rw [hb] at h
      have h2 := ih h
      refine ⟨List.mem_cons_of_mem _ h2.1, List.mem_cons_of_mem _ ?_⟩
      cases hc : Nat.beq (q_cat w) 2 with
      | true =>
        rw [if_pos (Nat.eq_of_beq_eq_true hc)]
        have h3 := h2.2
        rw [hc] at h3
        exact h3
      | false =>
        rw [if_neg (q_beq_ne hc)]
        have h3 := h2.2
        rw [hc] at h3
        exact h3
theorem q_args_has {ad : Nat → Nat → Nat} {ls : Array Slot} {nL : Nat} {vs : List PV} (h : lv_has ls nL (lv_args 0 (vs.map (q_tv ad)))) : lv_has ls nL (q_ll ad nL (q_args 0 vs)) := by
  refine ⟨h.1, h.2.1, fun q hq => h.2.2 q ?_⟩
  obtain ⟨h1, w, h2, h3⟩ := q_ll_of hq
  obtain ⟨b, u⟩ := q
  dsimp only at h1 h2 h3
  subst h3
  exact (q_args_in h2).2
theorem q_sl_len (vs : List Value) : (lg_sl vs).length = (vs.map fun v => v.category).sum := by
  induction vs with
  | nil => rfl
  | cons v r ih =>
    have e : lg_sl (v :: r) = (if v.category = 2 then [.val v, .second] else [.val v]) ++ lg_sl r := rfl
    rw [e, List.length_append, ih, List.map_cons, List.sum_cons]
    rcases lv_cat v with h | h <;> simp [h]
section SNC
variable {mt : Nat → MRow} {p : Program} {l : Launch} {e : Env} {R : Room} {s : State} {m : MethodId} {args : Array Value} {below : List Frame} {meth : Method} {c : Code} {Q : State → Prop} {D : va_G} {cy : Nat → ClassId} {ad : Nat → Nat → Nat} {n k cells slots pc : Nat} {A : Nat → Prop} {g : Nat → PL → List PV → J → Option Res} {cal : Nat → List PV → J → Option Res} {r : Res} {L : PL} {st : List PV} {σ : J} {ox : Int} {oa ob : Nat} {ol : List Nat}
theorem q_go {H : Heap} {locs : List Loc} {ls : Array Slot} {rest st0 : List Value} {σ1 : J} {v : Option Value} {a : Array Value} (hv : va_Run p l e R s m args below meth c H locs cells slots 0 0 (F0 m pc ls st0) rest (q_Q D cy ad n A v σ1 a) A) (hS : va_S A s.heap H locs)
    (kk : ∀ (H1 : Heap) (locs1 : List Loc), WJ D cy ad n σ1 H1 → va_S A s.heap H1 locs1 → W p l e R s m args below meth c H1 locs1 cells slots Q (F0 m (pc + 3) ls (v.toList ++ rest))) : W p l e R s m args below meth c H locs cells slots Q (F0 m pc ls st0) := by
  intro T hT X
  obtain ⟨v', st₀, t, T', L', h0, X', hL, e1, e2, ⟨hv', hw, hz, hk⟩, st'⟩ := hv T hT X
  cases hv'
  rw [h0] at hz hk
  obtain ⟨t2, a1, b1⟩ := kk T'.heap (locs ++ L') (by rw [e1]; exact hw) ⟨Nat.le_trans hS.1 (by rw [e1]; exact hz), fun q h1 h2 => by
      rw [e1, hk q (Nat.lt_of_lt_of_le h1 hS.1) h2]
      exact hS.2.1 q h1 h2, fun q hq => by
      rcases List.mem_append.mp hq with h | h
      · exact hS.2.2 q h
      · exact hL q h⟩ T' rfl X'
  exact ⟨t2, st' t2 a1, b1⟩
theorem c_67 (cx : q_Cx mt p s m meth c args k D cy n ad A R cells slots) (hg : ∀ pc L st σ, g pc L st σ = some r → q_W mt p l e R s m args below meth c Q D cy ad n A k cells slots pc L st σ) {rm : Room} (hrm : rm.cells = 0 ∧ rm.slots = 0 ∧ rm.frames + 1 ≤ R.frames ∧ 49 + rm.locals ≤ R.locals) (hcl : ∀ k1 vs τ v τ1, cal k1 vs τ = some (.inl v, τ1) → (vs.map q_cat).sum ≤ (mt k1).2.2.1 → q_oks n vs → q_CT l mt rm D cy ad n A k1 vs τ v τ1) (o1 : q_dc (mt k).2.1 pc (.invokevirtual oa) 3 = true) (o2 : q_wd (ol.getD 3 0) (.methodLink (mt k).1.cls oa (mt ob).1) = true) (o3 : q_wd (ol.getD 4 0) (.instanceMethod (mt ob).1) = true) (o4 : q_wd (ol.getD 5 0) (.selects (q_cl (ol.getD 1 0)).1 (mt ob).1 (mt ob).1) = true) (o5 : q_wd (ol.getD 6 0) (.initialized (q_cl (ol.getD 1 0)).1) = true) (o6 : q_wd (ol.getD 7 0) (.code (mt ob).1 (mt ob).2.1 (mt ob).2.2.1 (mt ob).2.2.2) = true) (o7 : q_ny (mt ob).1 (q_cl (ol.getD 1 0)).1 (ol.getD 0 0) = true) (o8 : Nat.ble (mt ob).2.2.1 30 = true) (o9 : Nat.ble (ol.getD 2 0 + 1) (mt ob).2.2.1 = true) {a : List PV × List PV} {q : (Nat × Nat) × List PV} {w : Nat × List (Nat × Nat × Nat)} (e_a : q_pop (ol.getD 0 0) st = some a) (e_q : q_pR a.2 = some q) (e_w : q_ko q.1.1 = some w) (hb : Nat.beq w.1 (ol.getD 1 0) = true ∧ q_rm q.2 = true ∧ Nat.beq ((a.1.map q_cat).sum) (ol.getD 2 0) = true) {v : Option PV} {σ1 : J} (e_z : cal ob (.inr (.inr (some q.1)) :: a.1) σ = some (.inl v, σ1)) (hv : ∀ w, v = some w → q_ok n w = true) (h : g (pc + 3) L (v.toList ++ q.2) σ1 = some r) : q_W mt p l e R s m args below meth c Q D cy ad n A k cells slots pc L st σ := by
  obtain ⟨e1, e2⟩ := q_pop_s _ e_a
  rw [q_pR_s e_q] at e1
  have hci := Nat.eq_of_beq_eq_true hb.1
  have hwd := Nat.eq_of_beq_eq_true hb.2.2
  rw [← hci] at o4 o5 o7
  have hc := q_kB_at e_w
  intro H locs ls hP hS hl hL hst
  have hst2 := q_oks_iff.mp hst
  rw [e1] at hst2
  have hq : q_ok n (.inr (.inr (some q.1))) = true := hst2 _ (by simp)
  have hi : (q.1.1, q.1.2) ∈ idj n := q_ok_in hq (q_ko_ne e_w)
  obtain ⟨t, ht0, ht⟩ := wl_at (ad := ad) (cn := cj cy ad n σ) hi
  rw [cj_o e_w] at ht
  have hM := hcl _ _ _ _ _ e_z (by
    have h9 := Nat.le_of_ble_eq_true o9
    show 1 + (a.1.map q_cat).sum ≤ _
    omega) (q_oks_iff.mpr fun x hx => by
    rcases List.mem_cons.mp hx with rfl | hx
    · exact hq
    · exact hst2 x (by simp [hx]))
  have hro : ((q.2.map (q_tv ad)).map fun v => v.category).sum ≤ 8 := by
    rw [q_cats]
    exact Nat.le_of_ble_eq_true hb.2.1
  have h8 := Nat.le_of_ble_eq_true o8
  have hW := va_runV (As := a.1.map (q_tv ad)) (rest := q.2.map (q_tv ad)) (g := F0 m pc ls (st.map (q_tv ad))) (Ts := gt) (locs := locs) (cells := cells) (slots := slots) (below := below) (e := e) (meth := meth) ⟨cx.1, cx.2.1, cx.2.2.1, cx.2.2.2.1, cx.2.2.2.2.1⟩ hM
    (cwV (C := (q_cl w.1).1) (index := oa) (ol.getD 0 0) cx.2.2.2.2.1 (gi_V (q_wd_in o2) (q_wd_in o3) (q_wd_in o4) (q_wd_in o5) (q_wd_in o6)) rfl hrm.1 hrm.2.1 (of_decide_eq_true o7) ⟨hrm.2.2.1, by have := hrm.2.2.2; omega⟩)
    ⟨fun a U g mk z => ⟨z.1, z.2.1, va_K.moved (u := U) (U := U.calling g mk a) (Vm.Alike.refl U.vm) z.2.2⟩, va_recv cx.2.2.2.2.2.1 hP (q_cl_at hc.1) ht, fun U hU hw => ⟨rfl, by rw [hU]; exact hP, va_K.moved hw.alike cx.2.2.2.2.2.1⟩⟩ rfl (by rw [List.length_map]; exact e2) hl.1
    (by show st.map (q_tv ad) = _; rw [e1, List.map_append, List.map_reverse]; rfl) (lv_room hro) (q_dd o1) ⟨cx.2.2.2.2.2.2.2.2.2.2.2.1, cx.2.2.2.2.2.2.2.2.2.2.2.2⟩
  refine q_go hW hS fun H1 locs1 hP1 hS1 => ?_
  have hgo := hg _ _ _ _ h H1 locs1 ls hP1 hS1 hl hL (q_oks_iff.mpr fun x hx => by
    rcases List.mem_append.mp hx with hx | hx
    · exact hv x (by cases v with
        | none => cases hx
        | some y => rw [List.mem_singleton.mp hx])
    · exact hst2 x (by simp [hx]))
  cases v <;> exact hgo
theorem z_67 (cx : q_Cx mt p s m meth c args k D cy n ad A R cells slots) (hg : ∀ pc L st σ, g pc L st σ = some r → q_W mt p l e R s m args below meth c Q D cy ad n A k cells slots pc L st σ) {rm : Room} (hrm : rm.cells = 0 ∧ rm.slots = 0 ∧ rm.frames + 1 ≤ R.frames ∧ 49 + rm.locals ≤ R.locals) (hcl : ∀ k1 vs τ v τ1, cal k1 vs τ = some (.inl v, τ1) → (vs.map q_cat).sum ≤ (mt k1).2.2.1 → q_oks n vs → q_CT l mt rm D cy ad n A k1 vs τ v τ1) (hr : ∃ v τ, r = (.inl v, τ)) (ho : q_okB mt k pc (67, ox, oa, ob, ol) = true) (h : q_stp n g cal pc (67, ox, oa, ob, ol) L st σ = some r) : q_W mt p l e R s m args below meth c Q D cy ad n A k cells slots pc L st σ := by
  replace ho : (q_dc (mt k).2.1 pc (.invokevirtual oa) 3 && q_wd (ol.getD 3 0) (.methodLink (mt k).1.cls oa (mt ob).1) && q_wd (ol.getD 4 0) (.instanceMethod (mt ob).1) && q_wd (ol.getD 5 0) (.selects (q_cl (ol.getD 1 0)).1 (mt ob).1 (mt ob).1) && q_wd (ol.getD 6 0) (.initialized (q_cl (ol.getD 1 0)).1) && q_wd (ol.getD 7 0) (.code (mt ob).1 (mt ob).2.1 (mt ob).2.2.1 (mt ob).2.2.2) && q_ny (mt ob).1 (q_cl (ol.getD 1 0)).1 (ol.getD 0 0) && Nat.ble (mt ob).2.2.1 30 && Nat.ble (ol.getD 2 0 + 1) (mt ob).2.2.1) = true := ho
  simp only [Bool.and_eq_true] at ho
  obtain ⟨⟨⟨⟨⟨⟨⟨⟨o1, o2⟩, o3⟩, o4⟩, o5⟩, o6⟩, o7⟩, o8⟩, o9⟩ := ho
  replace h : ((q_pop (ol.getD 0 0) st).bind fun a => (q_pR a.2).bind fun q => (q_ko q.1.1).bind fun w => bif Nat.beq w.1 (ol.getD 1 0) && (q_rm q.2 && Nat.beq ((a.1.map q_cat).sum) (ol.getD 2 0)) then (cal ob (.inr (.inr (some q.1)) :: a.1) σ).bind (q_af n (fun st' σ' => g (pc + 3) L st' σ') q.2) else none) = some r := h
  obtain ⟨a, e_a, h⟩ := Option.bind_eq_some_iff.mp h
  obtain ⟨q, e_q, h⟩ := Option.bind_eq_some_iff.mp h
  obtain ⟨w, e_w, h⟩ := Option.bind_eq_some_iff.mp h
  obtain ⟨hb, h⟩ := q_bf h
  obtain ⟨z, e_z, h⟩ := Option.bind_eq_some_iff.mp h
  simp only [Bool.and_eq_true] at hb
  obtain ⟨v, σ1, rfl, hv, h⟩ := q_af_in h hr
  exact c_67 cx hg hrm hcl o1 o2 o3 o4 o5 o6 o7 o8 o9 e_a e_q e_w hb e_z hv h
theorem c_68 (cx : q_Cx mt p s m meth c args k D cy n ad A R cells slots) (hg : ∀ pc L st σ, g pc L st σ = some r → q_W mt p l e R s m args below meth c Q D cy ad n A k cells slots pc L st σ) {rm : Room} (hrm : rm.cells = 0 ∧ rm.slots = 0 ∧ rm.frames + 1 ≤ R.frames ∧ 49 + rm.locals ≤ R.locals) (hcl : ∀ k1 vs τ v τ1, cal k1 vs τ = some (.inl v, τ1) → (vs.map q_cat).sum ≤ (mt k1).2.2.1 → q_oks n vs → q_CT l mt rm D cy ad n A k1 vs τ v τ1) (o1 : q_dc (mt k).2.1 pc (.invokestatic oa) 3 = true) (o2 : q_wd (ol.getD 3 0) (.methodLink (mt k).1.cls oa (mt ob).1) = true) (o3 : q_wd (ol.getD 4 0) (.static (mt ob).1) = true) (o5 : q_wd (ol.getD 6 0) (.initialized (mt ob).1.cls) = true) (o6 : q_wd (ol.getD 7 0) (.code (mt ob).1 (mt ob).2.1 (mt ob).2.2.1 (mt ob).2.2.2) = true) (o7 : q_ny (mt ob).1 (mt ob).1.cls (ol.getD 0 0) = true) (o8 : Nat.ble (mt ob).2.2.1 30 = true) (o9 : Nat.ble (ol.getD 2 0) (mt ob).2.2.1 = true) {a : List PV × List PV} (e_a : q_pop (ol.getD 0 0) st = some a) (hb : q_rm a.2 = true ∧ Nat.beq ((a.1.map q_cat).sum) (ol.getD 2 0) = true) {v : Option PV} {σ1 : J} (e_z : cal ob a.1 σ = some (.inl v, σ1)) (hv : ∀ w, v = some w → q_ok n w = true) (h : g (pc + 3) L (v.toList ++ a.2) σ1 = some r) : q_W mt p l e R s m args below meth c Q D cy ad n A k cells slots pc L st σ := by
  obtain ⟨e1, e2⟩ := q_pop_s _ e_a
  have hwd := Nat.eq_of_beq_eq_true hb.2
  intro H locs ls hP hS hl hL hst
  have hst2 := q_oks_iff.mp hst
  rw [e1] at hst2
  have hM := hcl _ _ _ _ _ e_z (by
    have h9 := Nat.le_of_ble_eq_true o9
    omega) (q_oks_iff.mpr fun x hx => hst2 x (by simp [hx]))
  have hro : ((a.2.map (q_tv ad)).map fun v => v.category).sum ≤ 8 := by
    rw [q_cats]
    exact Nat.le_of_ble_eq_true hb.1
  have h8 := Nat.le_of_ble_eq_true o8
  have hW := va_runS (As := a.1.map (q_tv ad)) (rest := a.2.map (q_tv ad)) (g := F0 m pc ls (st.map (q_tv ad))) (Ts := gt) (locs := locs) (cells := cells) (slots := slots) (below := below) (e := e) (meth := meth) ⟨cx.1, cx.2.1, cx.2.2.1, cx.2.2.2.1, cx.2.2.2.2.1⟩ hM
    ⟨callB_of (index := oa) (ol.getD 0 0) cx.2.2.2.2.1 (gi_1 (q_wd_in o6)) rfl hrm.1 hrm.2.1 (cx.2.2.2.2.1 _ (q_wd_in o5)) (cx.2.2.2.2.1 _ (q_wd_in o2)) (of_decide_eq_true o7).2 ⟨hrm.2.2.1, by have := hrm.2.2.2; omega⟩, cx.2.2.2.2.1 _ (q_wd_in o3)⟩
    ⟨fun a U g mk z => ⟨z.1, z.2.1, va_K.moved (u := U) (U := U.calling g mk a) (Vm.Alike.refl U.vm) z.2.2⟩, fun U hU hw => ⟨rfl, by rw [hU]; exact hP, va_K.moved hw.alike cx.2.2.2.2.2.1⟩⟩ rfl (by rw [List.length_map]; exact e2) hl.1
    (by show st.map (q_tv ad) = _; rw [e1, List.map_append, List.map_reverse]) (lv_room hro) (q_dd o1) ⟨cx.2.2.2.2.2.2.2.2.2.2.2.1, cx.2.2.2.2.2.2.2.2.2.2.2.2⟩
  refine q_go hW hS fun H1 locs1 hP1 hS1 => ?_
  have hgo := hg _ _ _ _ h H1 locs1 ls hP1 hS1 hl hL (q_oks_iff.mpr fun x hx => by
    rcases List.mem_append.mp hx with hx | hx
    · exact hv x (by cases v with
        | none => cases hx
        | some y => rw [List.mem_singleton.mp hx])
    · exact hst2 x (by simp [hx]))
  cases v <;> exact hgo
theorem z_68 (cx : q_Cx mt p s m meth c args k D cy n ad A R cells slots) (hg : ∀ pc L st σ, g pc L st σ = some r → q_W mt p l e R s m args below meth c Q D cy ad n A k cells slots pc L st σ) {rm : Room} (hrm : rm.cells = 0 ∧ rm.slots = 0 ∧ rm.frames + 1 ≤ R.frames ∧ 49 + rm.locals ≤ R.locals) (hcl : ∀ k1 vs τ v τ1, cal k1 vs τ = some (.inl v, τ1) → (vs.map q_cat).sum ≤ (mt k1).2.2.1 → q_oks n vs → q_CT l mt rm D cy ad n A k1 vs τ v τ1) (hr : ∃ v τ, r = (.inl v, τ)) (ho : q_okB mt k pc (68, ox, oa, ob, ol) = true) (h : q_stp n g cal pc (68, ox, oa, ob, ol) L st σ = some r) : q_W mt p l e R s m args below meth c Q D cy ad n A k cells slots pc L st σ := by
  replace ho : (q_dc (mt k).2.1 pc (.invokestatic oa) 3 && q_wd (ol.getD 3 0) (.methodLink (mt k).1.cls oa (mt ob).1) && q_wd (ol.getD 4 0) (.static (mt ob).1) && q_wd (ol.getD 6 0) (.initialized (mt ob).1.cls) && q_wd (ol.getD 7 0) (.code (mt ob).1 (mt ob).2.1 (mt ob).2.2.1 (mt ob).2.2.2) && q_ny (mt ob).1 (mt ob).1.cls (ol.getD 0 0) && Nat.ble (mt ob).2.2.1 30 && Nat.ble (ol.getD 2 0) (mt ob).2.2.1) = true := ho
  simp only [Bool.and_eq_true] at ho
  obtain ⟨⟨⟨⟨⟨⟨⟨o1, o2⟩, o3⟩, o5⟩, o6⟩, o7⟩, o8⟩, o9⟩ := ho
  replace h : ((q_pop (ol.getD 0 0) st).bind fun a => bif q_rm a.2 && Nat.beq ((a.1.map q_cat).sum) (ol.getD 2 0) then (cal ob a.1 σ).bind (q_af n (fun st' σ' => g (pc + 3) L st' σ') a.2) else none) = some r := h
  obtain ⟨a, e_a, h⟩ := Option.bind_eq_some_iff.mp h
  obtain ⟨hb, h⟩ := q_bf h
  obtain ⟨z, e_z, h⟩ := Option.bind_eq_some_iff.mp h
  simp only [Bool.and_eq_true] at hb
  obtain ⟨v, σ1, rfl, hv, h⟩ := q_af_in h hr
  exact c_68 cx hg hrm hcl o1 o2 o3 o5 o6 o7 o8 o9 e_a hb e_z hv h
theorem z_69 (cx : q_Cx mt p s m meth c args k D cy n ad A R cells slots) (hg : ∀ pc L st σ, g pc L st σ = some r → q_W mt p l e R s m args below meth c Q D cy ad n A k cells slots pc L st σ) (ho : q_okB mt k pc (69, ox, oa, ob, ol) = true) (h : q_stp n g cal pc (69, ox, oa, ob, ol) L st σ = some r) : q_W mt p l e R s m args below meth c Q D cy ad n A k cells slots pc L st σ := by
  replace ho : (q_dc (mt k).2.1 pc (.invokestatic oa) 3 && q_wd (ol.getD 0 0) (.methodLink (mt k).1.cls oa arraycopyName) && q_wd (ol.getD 1 0) (.native arraycopyName) && q_wd (ol.getD 2 0) (.static arraycopyName) && q_wd (ol.getD 3 0) (.initialized "java/lang/System")) = true := ho
  simp only [Bool.and_eq_true] at ho
  obtain ⟨⟨⟨⟨o1, o2⟩, o3⟩, o4⟩, o5⟩ := ho
  replace h : ((q_pI st).bind fun m => (q_pI m.2).bind fun dp => (q_pR dp.2).bind fun b => (q_pI b.2).bind fun sp => (q_pR sp.2).bind fun a => (q_ka a.1.1).bind fun wa => (q_ka b.1.1).bind fun wb => bif q_cpo sp.1 dp.1 m.1 (q_nn n wa.2.2) (q_nn n wb.2.2) && q_rm a.2 then
      bif Nat.beq wa.1 0 && Nat.beq wb.1 0 then g (pc + 3) L a.2 (q_sA σ b.1.1 b.1.2 (va_cpy (σ.2.1 a.1.1 a.1.2) (σ.2.1 b.1.1 b.1.2) sp.1.toNatClampNeg dp.1.toNatClampNeg m.1.toNatClampNeg))
      else bif Nat.beq wa.1 1 && Nat.beq wb.1 1 then g (pc + 3) L a.2 (q_sL σ b.1.1 b.1.2 (va_cpy (σ.2.2.1 a.1.1 a.1.2) (σ.2.2.1 b.1.1 b.1.2) sp.1.toNatClampNeg dp.1.toNatClampNeg m.1.toNatClampNeg)) else none else none) = some r := h
  obtain ⟨many, e_m, h⟩ := Option.bind_eq_some_iff.mp h
  obtain ⟨dp, e_dp, h⟩ := Option.bind_eq_some_iff.mp h
  obtain ⟨b, e_b, h⟩ := Option.bind_eq_some_iff.mp h
  obtain ⟨sp, e_sp, h⟩ := Option.bind_eq_some_iff.mp h
  obtain ⟨a, e_a, h⟩ := Option.bind_eq_some_iff.mp h
  obtain ⟨wa, e_wa, h⟩ := Option.bind_eq_some_iff.mp h
  obtain ⟨wb, e_wb, h⟩ := Option.bind_eq_some_iff.mp h
  obtain ⟨hb, h⟩ := q_bf h
  rw [q_pI_s e_m, q_pI_s e_dp, q_pR_s e_b, q_pI_s e_sp, q_pR_s e_a]
  simp only [q_cpo, Bool.and_eq_true, decide_eq_true_eq] at hb
  obtain ⟨⟨⟨⟨⟨b1, b2⟩, b3⟩, b4⟩, b5⟩, b6⟩ := hb
  intro H locs ls hP hS hl hL hst
  have hia : (a.1.1, a.1.2) ∈ idj n := q_ok_in hst.2.2.2.2.1 (q_ka_ne e_wa)
  have hib : (b.1.1, b.1.2) ∈ idj n := q_ok_in hst.2.2.1 (q_ka_ne e_wb)
  obtain ⟨ta, ta0, hta⟩ := wl_at (ad := ad) (cn := cj cy ad n σ) hia
  obtain ⟨tb, tb0, htb⟩ := wl_at (ad := ad) (cn := cj cy ad n σ) hib
  rw [cj_a e_wa] at hta
  rw [cj_a e_wb] at htb
  have hro : ((a.2.map (q_tv ad)).map fun v => v.category).sum ≤ 8 := by
    rw [q_cats]
    exact Nat.le_of_ble_eq_true b6
  have hnw : nativeFrameWords "java/lang/System" "arraycopy" 5 = 7 := by decide
  have h40 := cx.2.2.2.2.2.2.2.2.2.2.1
  have hlo : ((a.2.map (q_tv ad)).map fun v => v.category).sum + (nativeFrameWords "java/lang/System" "arraycopy" 5 + 11) ≤ R.locals := by
    rw [hnw]
    omega
  cases hk : (Nat.beq wa.1 0 && Nat.beq wb.1 0) with
  | true =>
    rw [hk] at h
    simp only [Bool.and_eq_true] at hk
    have w1 : wa.1 = 0 := Nat.eq_of_beq_eq_true hk.1
    have w2 : wb.1 = 0 := Nat.eq_of_beq_eq_true hk.2
    rw [w1] at hta
    rw [w2] at htb
    refine va_copyi cx.1 cx.2.1 (cx.2.2.1.trans hl.1.symm) cx.2.2.2.1 (cx.2.2.2.2.1 _ (q_wd_in o2)) (cx.2.2.2.2.1 _ (q_wd_in o3)) (cx.2.2.2.2.1 _ (q_wd_in o4)) (cx.2.2.2.2.1 _ (q_wd_in o5)) cx.2.2.2.2.2.1 hP (cx.2.2.2.2.2.2.2.2.1 _) hS ta tb 0 0 hta htb rfl rfl rfl b1 b2 b3 (Nat.le_of_ble_eq_true b4) (Nat.le_of_ble_eq_true b5) (fun _ _ => rfl) cx.2.2.2.2.2.2.2.2.2.1 hlo (q_dd o1) (fun H1 locs1 hP1 _ hS1 => ?_)
    rw [wl_set (cx.2.2.2.2.2.2.2.2.1 _) tb0, cj_sA' e_wb w2 (Or.inl rfl)] at hP1
    exact hg _ _ _ _ h H1 locs1 ls hP1 hS1 hl hL hst.2.2.2.2.2
  | false =>
    rw [hk] at h
    obtain ⟨hk, h⟩ := q_bf h
    simp only [Bool.and_eq_true] at hk
    have w1 : wa.1 = 1 := Nat.eq_of_beq_eq_true hk.1
    have w2 : wb.1 = 1 := Nat.eq_of_beq_eq_true hk.2
    rw [w1] at hta
    rw [w2] at htb
    refine va_copyl cx.1 cx.2.1 (cx.2.2.1.trans hl.1.symm) cx.2.2.2.1 (cx.2.2.2.2.1 _ (q_wd_in o2)) (cx.2.2.2.2.1 _ (q_wd_in o3)) (cx.2.2.2.2.1 _ (q_wd_in o4)) (cx.2.2.2.2.1 _ (q_wd_in o5)) cx.2.2.2.2.2.1 hP (cx.2.2.2.2.2.2.2.2.1 _) hS ta tb 1 1 hta htb rfl rfl rfl b1 b2 b3 (Nat.le_of_ble_eq_true b4) (Nat.le_of_ble_eq_true b5) (fun _ _ => rfl) cx.2.2.2.2.2.2.2.2.2.1 hlo (q_dd o1) (fun H1 locs1 hP1 _ hS1 => ?_)
    rw [wl_set (cx.2.2.2.2.2.2.2.2.1 _) tb0, cj_sL' e_wb w2 rfl] at hP1
    exact hg _ _ _ _ h H1 locs1 ls hP1 hS1 hl hL hst.2.2.2.2.2
theorem z_70 (cx : q_Cx mt p s m meth c args k D cy n ad A R cells slots) (hg : ∀ pc L st σ, g pc L st σ = some r → q_W mt p l e R s m args below meth c Q D cy ad n A k cells slots pc L st σ) (ho : q_okB mt k pc (70, ox, oa, ob, ol) = true) (h : q_stp n g cal pc (70, ox, oa, ob, ol) L st σ = some r) : q_W mt p l e R s m args below meth c Q D cy ad n A k cells slots pc L st σ := by
  replace ho : (q_dc (mt k).2.1 pc (.invokestatic oa) 3 && q_wd (ol.getD 0 0) (.methodLink (mt k).1.cls oa Lib.MathLoose.max_long.x) && q_wd (ol.getD 1 0) (.static Lib.MathLoose.max_long.x) && q_wd (ol.getD 2 0) (.initialized "java/lang/Math") && q_wd (ol.getD 3 0) (.code Lib.MathLoose.max_long.x Lib.MathLoose.max_long.code 4 (some .long))) = true := ho
  simp only [Bool.and_eq_true] at ho
  obtain ⟨⟨⟨⟨o1, o2⟩, o3⟩, o4⟩, o5⟩ := ho
  replace h : ((q_pL st).bind fun y => (q_pL y.2).bind fun x => bif q_rm x.2 then g (pc + 3) L (.inr (.inl (if y.1 < x.1 then x.1 else y.1)) :: x.2) σ else none) = some r := h
  obtain ⟨y, e_y, h⟩ := Option.bind_eq_some_iff.mp h
  obtain ⟨x, e_x, h⟩ := Option.bind_eq_some_iff.mp h
  obtain ⟨hb, h⟩ := q_bf h
  rw [q_pL_s e_y, q_pL_s e_x]
  intro H locs ls hP hS hl hL hst
  have hro : ((x.2.map (q_tv ad)).map fun v => v.category).sum ≤ 8 := by
    rw [q_cats]
    exact Nat.le_of_ble_eq_true hb
  have h40 := cx.2.2.2.2.2.2.2.2.2.2.1
  exact va_mmax_long cx.1 cx.2.1 (cx.2.2.1.trans hl.1.symm) cx.2.2.2.1 (cx.2.2.2.2.1 _ (q_wd_in o2)) (cx.2.2.2.2.1 _ (q_wd_in o3)) (cx.2.2.2.2.1 _ (q_wd_in o4)) (cx.2.2.2.2.1 _ (q_wd_in o5)) cx.2.2.2.2.2.2.2.2.2.1 (by omega) cx.2.2.2.2.2.2.2.2.2.2.2.1 cx.2.2.2.2.2.2.2.2.2.2.2.2 (q_dd o1) (hg _ _ _ _ h H locs ls hP hS hl hL ⟨rfl, hst.2.2⟩)
theorem z_71 (cx : q_Cx mt p s m meth c args k D cy n ad A R cells slots) (hg : ∀ pc L st σ, g pc L st σ = some r → q_W mt p l e R s m args below meth c Q D cy ad n A k cells slots pc L st σ) (ho : q_okB mt k pc (71, ox, oa, ob, ol) = true) (h : q_stp n g cal pc (71, ox, oa, ob, ol) L st σ = some r) : q_W mt p l e R s m args below meth c Q D cy ad n A k cells slots pc L st σ := by
  replace ho : (q_dc (mt k).2.1 pc (.invokestatic oa) 3 && q_wd (ol.getD 0 0) (.methodLink (mt k).1.cls oa Lib.MathLoose.min_long.x) && q_wd (ol.getD 1 0) (.static Lib.MathLoose.min_long.x) && q_wd (ol.getD 2 0) (.initialized "java/lang/Math") && q_wd (ol.getD 3 0) (.code Lib.MathLoose.min_long.x Lib.MathLoose.min_long.code 4 (some .long))) = true := ho
  simp only [Bool.and_eq_true] at ho
  obtain ⟨⟨⟨⟨o1, o2⟩, o3⟩, o4⟩, o5⟩ := ho
  replace h : ((q_pL st).bind fun y => (q_pL y.2).bind fun x => bif q_rm x.2 then g (pc + 3) L (.inr (.inl (if y.1 < x.1 then y.1 else x.1)) :: x.2) σ else none) = some r := h
  obtain ⟨y, e_y, h⟩ := Option.bind_eq_some_iff.mp h
  obtain ⟨x, e_x, h⟩ := Option.bind_eq_some_iff.mp h
  obtain ⟨hb, h⟩ := q_bf h
  rw [q_pL_s e_y, q_pL_s e_x]
  intro H locs ls hP hS hl hL hst
  have hro : ((x.2.map (q_tv ad)).map fun v => v.category).sum ≤ 8 := by
    rw [q_cats]
    exact Nat.le_of_ble_eq_true hb
  have h40 := cx.2.2.2.2.2.2.2.2.2.2.1
  exact va_mmin_long cx.1 cx.2.1 (cx.2.2.1.trans hl.1.symm) cx.2.2.2.1 (cx.2.2.2.2.1 _ (q_wd_in o2)) (cx.2.2.2.2.1 _ (q_wd_in o3)) (cx.2.2.2.2.1 _ (q_wd_in o4)) (cx.2.2.2.2.1 _ (q_wd_in o5)) cx.2.2.2.2.2.2.2.2.2.1 (by omega) cx.2.2.2.2.2.2.2.2.2.2.2.1 cx.2.2.2.2.2.2.2.2.2.2.2.2 (q_dd o1) (hg _ _ _ _ h H locs ls hP hS hl hL ⟨rfl, hst.2.2⟩)
theorem z_72 (cx : q_Cx mt p s m meth c args k D cy n ad A R cells slots) (hg : ∀ pc L st σ, g pc L st σ = some r → q_W mt p l e R s m args below meth c Q D cy ad n A k cells slots pc L st σ) (hQ : ∃ v τ, r = (.inl v, τ) ∧ Q = MQ below (q_Q D cy ad n A (v.map (q_tv ad)) τ) args s cells slots A) (ho : q_okB mt k pc (72, ox, oa, ob, ol) = true) (h : q_stp n g cal pc (72, ox, oa, ob, ol) L st σ = some r) : q_W mt p l e R s m args below meth c Q D cy ad n A k cells slots pc L st σ := by
  replace ho : (q_dc (mt k).2.1 pc .ireturn 1 && decide ((mt k).2.2.2 = some .int)) = true := ho
  simp only [Bool.and_eq_true] at ho
  replace h : ((q_pI st).bind fun x => match x.2 with
    | [] => some (.inl (some (.inl x.1)), σ)
    | _ :: _ => none) = some r := h
  obtain ⟨x, e_x, h⟩ := Option.bind_eq_some_iff.mp h
  rw [q_pI_s e_x]
  obtain ⟨x1, x2⟩ := x
  cases x2 with
  | cons _ _ => cases h
  | nil =>
    cases h
    obtain ⟨v, τ, e1, e2⟩ := hQ
    cases e1
    subst e2
    intro H locs ls hP hS hl hL hst
    exact W.iret cx.1 cx.2.1 (cx.2.2.2.2.2.2.1.trans (of_decide_eq_true ho.2)) (fun _ ht _ => ⟨rfl, by rw [ht]; exact hP, hS.F ht⟩) hS.2.2 (q_dd ho.1) cx.2.2.2.2.2.2.2.1

theorem z_73 (cx : q_Cx mt p s m meth c args k D cy n ad A R cells slots) (hg : ∀ pc L st σ, g pc L st σ = some r → q_W mt p l e R s m args below meth c Q D cy ad n A k cells slots pc L st σ) (hQ : ∃ v τ, r = (.inl v, τ) ∧ Q = MQ below (q_Q D cy ad n A (v.map (q_tv ad)) τ) args s cells slots A) (ho : q_okB mt k pc (73, ox, oa, ob, ol) = true) (h : q_stp n g cal pc (73, ox, oa, ob, ol) L st σ = some r) : q_W mt p l e R s m args below meth c Q D cy ad n A k cells slots pc L st σ := by
  replace ho : (q_dc (mt k).2.1 pc .ireturn 1 && decide ((mt k).2.2.2 = some .boolean)) = true := ho
  simp only [Bool.and_eq_true] at ho
  replace h : ((q_pI st).bind fun x => match x.2 with
    | [] => if x.1 &&& 1 = x.1 then some (.inl (some (.inl x.1)), σ) else none
    | _ :: _ => none) = some r := h
  obtain ⟨x, e_x, h⟩ := Option.bind_eq_some_iff.mp h
  rw [q_pI_s e_x]
  obtain ⟨x1, x2⟩ := x
  cases x2 with
  | cons _ _ => cases h
  | nil =>
    replace h : (if x1 &&& 1 = x1 then some (.inl (some (.inl x1)), σ) else none) = some r := h
    by_cases hz : ¬ (x1 &&& 1 = x1)
    · rw [if_neg hz] at h
      cases h
    replace hz := Classical.not_not.mp hz
    rw [if_pos hz] at h
    cases h
    obtain ⟨v, τ, e1, e2⟩ := hQ
    cases e1
    subst e2
    intro H locs ls hP hS hl hL hst
    exact W.zret cx.1 cx.2.1 (cx.2.2.2.2.2.2.1.trans (of_decide_eq_true ho.2)) (q_b1 hz).1 (fun _ ht _ => ⟨rfl, by rw [ht]; exact hP, hS.F ht⟩) hS.2.2 (q_dd ho.1) cx.2.2.2.2.2.2.2.1

theorem z_74 (cx : q_Cx mt p s m meth c args k D cy n ad A R cells slots) (hg : ∀ pc L st σ, g pc L st σ = some r → q_W mt p l e R s m args below meth c Q D cy ad n A k cells slots pc L st σ) (hQ : ∃ v τ, r = (.inl v, τ) ∧ Q = MQ below (q_Q D cy ad n A (v.map (q_tv ad)) τ) args s cells slots A) (ho : q_okB mt k pc (74, ox, oa, ob, ol) = true) (h : q_stp n g cal pc (74, ox, oa, ob, ol) L st σ = some r) : q_W mt p l e R s m args below meth c Q D cy ad n A k cells slots pc L st σ := by
  replace ho : (q_dc (mt k).2.1 pc .lreturn 1 && decide ((mt k).2.2.2 = some .long)) = true := ho
  simp only [Bool.and_eq_true] at ho
  replace h : ((q_pL st).bind fun x => match x.2 with
    | [] => some (.inl (some (.inr (.inl x.1))), σ)
    | _ :: _ => none) = some r := h
  obtain ⟨x, e_x, h⟩ := Option.bind_eq_some_iff.mp h
  rw [q_pL_s e_x]
  obtain ⟨x1, x2⟩ := x
  cases x2 with
  | cons _ _ => cases h
  | nil =>
    cases h
    obtain ⟨v, τ, e1, e2⟩ := hQ
    cases e1
    subst e2
    intro H locs ls hP hS hl hL hst
    exact W.lret cx.1 cx.2.1 (cx.2.2.2.2.2.2.1.trans (of_decide_eq_true ho.2)) (fun _ ht _ => ⟨rfl, by rw [ht]; exact hP, hS.F ht⟩) hS.2.2 (q_dd ho.1) cx.2.2.2.2.2.2.2.1

theorem z_75 (cx : q_Cx mt p s m meth c args k D cy n ad A R cells slots) (hg : ∀ pc L st σ, g pc L st σ = some r → q_W mt p l e R s m args below meth c Q D cy ad n A k cells slots pc L st σ) (hQ : ∃ v τ, r = (.inl v, τ) ∧ Q = MQ below (q_Q D cy ad n A (v.map (q_tv ad)) τ) args s cells slots A) (ho : q_okB mt k pc (75, ox, oa, ob, ol) = true) (h : q_stp n g cal pc (75, ox, oa, ob, ol) L st σ = some r) : q_W mt p l e R s m args below meth c Q D cy ad n A k cells slots pc L st σ := by
  replace ho : (q_dc (mt k).2.1 pc .areturn 1 && (match (mt k).2.2.2 with
    | some (.object _) => true
    | _ => false)) = true := ho
  simp only [Bool.and_eq_true] at ho
  replace h : ((q_pN st).bind fun x => match x.2 with
    | [] => some (.inl (some (.inr (.inr x.1))), σ)
    | _ :: _ => none) = some r := h
  obtain ⟨x, e_x, h⟩ := Option.bind_eq_some_iff.mp h
  rw [q_pN_s e_x]
  obtain ⟨x1, x2⟩ := x
  cases x2 with
  | cons _ _ => cases h
  | nil =>
    obtain ⟨C, hC⟩ : ∃ C, (mt k).2.2.2 = some (.object C) := by
      have h2 := ho.2
      split at h2
      · exact ⟨_, by assumption⟩
      · cases h2
    cases h
    obtain ⟨v, τ, e1, e2⟩ := hQ
    cases e1
    subst e2
    intro H locs ls hP hS hl hL hst
    exact W.aret cx.1 cx.2.1 (cx.2.2.2.2.2.2.1.trans hC) (Or.inl ⟨_, rfl⟩) (by cases x1 with
      | none => exact Or.inl rfl
      | some _ => exact Or.inr ⟨_, rfl⟩) (fun _ ht _ => ⟨rfl, by rw [ht]; exact hP, hS.F ht⟩) hS.2.2 (q_dd ho.1) cx.2.2.2.2.2.2.2.1

theorem z_76 (cx : q_Cx mt p s m meth c args k D cy n ad A R cells slots) (hg : ∀ pc L st σ, g pc L st σ = some r → q_W mt p l e R s m args below meth c Q D cy ad n A k cells slots pc L st σ) (hQ : ∃ v τ, r = (.inl v, τ) ∧ Q = MQ below (q_Q D cy ad n A (v.map (q_tv ad)) τ) args s cells slots A) (ho : q_okB mt k pc (76, ox, oa, ob, ol) = true) (h : q_stp n g cal pc (76, ox, oa, ob, ol) L st σ = some r) : q_W mt p l e R s m args below meth c Q D cy ad n A k cells slots pc L st σ := by
  replace ho : (q_dc (mt k).2.1 pc .return_ 1 && decide ((mt k).2.2.2 = none)) = true := ho
  simp only [Bool.and_eq_true] at ho
  cases st with
  | cons _ _ =>
    replace h : none = some r := h
    cases h
  | nil =>
    replace h : some (Sum.inl none, σ) = some r := h
    cases h
    obtain ⟨v, τ, e1, e2⟩ := hQ
    cases e1
    subst e2
    intro H locs ls hP hS hl hL hst
    exact W.vret cx.1 cx.2.1 (cx.2.2.2.2.2.2.1.trans (of_decide_eq_true ho.2)) (fun _ ht _ => ⟨rfl, by rw [ht]; exact hP, hS.F ht⟩) hS.2.2 (q_dd ho.1) cx.2.2.2.2.2.2.2.1
theorem q_big {ci : Nat} (hc : 77 < ci ∨ ci = 5) : q_stp n g cal pc (ci, ox, oa, ob, ol) L st σ = none := by
  unfold q_stp
  dsimp only
  split <;> first | rfl | (exfalso; omega)
theorem q_all {ci : Nat} (cx : q_Cx mt p s m meth c args k D cy n ad A R cells slots) (hg : ∀ pc L st σ, g pc L st σ = some r → q_W mt p l e R s m args below meth c Q D cy ad n A k cells slots pc L st σ) {rm : Room} (hrm : rm.cells = 0 ∧ rm.slots = 0 ∧ rm.frames + 1 ≤ R.frames ∧ 49 + rm.locals ≤ R.locals) (hcl : ∀ k1 vs τ v τ1, cal k1 vs τ = some (.inl v, τ1) → (vs.map q_cat).sum ≤ (mt k1).2.2.1 → q_oks n vs → q_CT l mt rm D cy ad n A k1 vs τ v τ1) (hQ : ∃ v τ, r = (.inl v, τ) ∧ Q = MQ below (q_Q D cy ad n A (v.map (q_tv ad)) τ) args s cells slots A) (ho : q_okB mt k pc (ci, ox, oa, ob, ol) = true) (h : q_stp n g cal pc (ci, ox, oa, ob, ol) L st σ = some r) : q_W mt p l e R s m args below meth c Q D cy ad n A k cells slots pc L st σ := by
  by_cases hbig : 77 < ci ∨ ci = 5
  · rw [q_big hbig] at h
    cases h
  have hlt : ci < 78 := by omega
  match ci, hlt, ho, h with
  | 0, _, ho, h => exact z_0 cx hg ho h
  | 1, _, ho, h => exact z_1 cx hg ho h
  | 2, _, ho, h => exact z_2 cx hg ho h
  | 3, _, ho, h => exact z_3 cx hg ho h
  | 4, _, ho, h => exact z_4 cx hg ho h
  | 6, _, ho, h => exact z_6 cx hg ho h
  | 7, _, ho, h => exact z_7 cx hg ho h
  | 8, _, ho, h => exact z_8 cx hg ho h
  | 9, _, ho, h => exact z_9 cx hg ho h
  | 10, _, ho, h => exact z_10 cx hg ho h
  | 11, _, ho, h => exact z_11 cx hg ho h
  | 12, _, ho, h => exact z_12 cx hg ho h
  | 13, _, ho, h => exact z_13 cx hg ho h
  | 14, _, ho, h => exact z_14 cx hg ho h
  | 15, _, ho, h => exact z_15 cx hg ho h
  | 16, _, ho, h => exact z_16 cx hg ho h
  | 17, _, ho, h => exact z_17 cx hg ho h
  | 18, _, ho, h => exact z_18 cx hg ho h
  | 19, _, ho, h => exact z_19 cx hg ho h
  | 20, _, ho, h => exact z_20 cx hg ho h
  | 21, _, ho, h => exact z_21 cx hg ho h
  | 22, _, ho, h => exact z_22 cx hg ho h
  | 23, _, ho, h => exact z_23 cx hg ho h
  | 24, _, ho, h => exact z_24 cx hg ho h
  | 25, _, ho, h => exact z_25 cx hg ho h
  | 26, _, ho, h => exact z_26 cx hg ho h
  | 27, _, ho, h => exact z_27 cx hg ho h
  | 28, _, ho, h => exact z_28 cx hg ho h
  | 29, _, ho, h => exact z_29 cx hg ho h
  | 30, _, ho, h => exact z_30 cx hg ho h
  | 31, _, ho, h => exact z_31 cx hg ho h
  | 32, _, ho, h => exact z_32 cx hg ho h
  | 33, _, ho, h => exact z_33 cx hg ho h
  | 34, _, ho, h => exact z_34 cx hg ho h
  | 35, _, ho, h => exact z_35 cx hg ho h
  | 36, _, ho, h => exact z_36 cx hg ho h
  | 37, _, ho, h => exact z_37 cx hg ho h
  | 38, _, ho, h => exact z_38 cx hg ho h
  | 39, _, ho, h => exact z_39 cx hg ho h
  | 40, _, ho, h => exact z_40 cx hg ho h
  | 41, _, ho, h => exact z_41 cx hg ho h
  | 42, _, ho, h => exact z_42 cx hg ho h
  | 43, _, ho, h => exact z_43 cx hg ho h
  | 44, _, ho, h => exact z_44 cx hg ho h
  | 45, _, ho, h => exact z_45 cx hg ho h
  | 46, _, ho, h => exact z_46 cx hg ho h
  | 47, _, ho, h => exact z_47 cx hg ho h
  | 48, _, ho, h => exact z_48 cx hg ho h
  | 49, _, ho, h => exact z_49 cx hg ho h
  | 50, _, ho, h => exact z_50 cx hg ho h
  | 51, _, ho, h => exact z_51 cx hg ho h
  | 52, _, ho, h => exact z_52 cx hg ho h
  | 53, _, ho, h => exact z_53 cx hg ho h
  | 54, _, ho, h => exact z_54 cx hg ho h
  | 55, _, ho, h => exact z_55 cx hg ho h
  | 56, _, ho, h => exact z_56 cx hg ho h
  | 57, _, ho, h => exact z_57 cx hg ho h
  | 58, _, ho, h => exact z_58 cx hg ho h
  | 59, _, ho, h => exact z_59 cx hg ho h
  | 60, _, ho, h => exact z_60 cx hg ho h
  | 61, _, ho, h => exact z_61 cx hg ho h
  | 62, _, ho, h => exact z_62 cx hg ho h
  | 63, _, ho, h => exact z_63 cx hg ho h
  | 64, _, ho, h => exact z_64 cx hg ho h
  | 65, _, ho, h => exact z_65 cx hg ho h
  | 66, _, ho, h => exact z_66 cx hg ho h
  | 67, _, ho, h => exact z_67 cx hg hrm hcl ⟨_, _, hQ.choose_spec.choose_spec.1⟩ ho h
  | 68, _, ho, h => exact z_68 cx hg hrm hcl ⟨_, _, hQ.choose_spec.choose_spec.1⟩ ho h
  | 69, _, ho, h => exact z_69 cx hg ho h
  | 70, _, ho, h => exact z_70 cx hg ho h
  | 71, _, ho, h => exact z_71 cx hg ho h
  | 72, _, ho, h => exact z_72 cx hg hQ ho h
  | 73, _, ho, h => exact z_73 cx hg hQ ho h
  | 74, _, ho, h => exact z_74 cx hg hQ ho h
  | 75, _, ho, h => exact z_75 cx hg hQ ho h
  | 76, _, ho, h => exact z_76 cx hg hQ ho h
  | 5, _, ho, h => exact absurd (Or.inr rfl) hbig
  | 77, _, ho, h =>
    obtain ⟨v, τ, e1, -⟩ := hQ
    cases st with
    | cons _ _ =>
      replace h : none = some r := h
      cases h
    | nil =>
      replace h : some (Sum.inr oa, σ) = some r := h
      cases h
      cases e1
  | _ + 78, hl, _, _ => omega
end SNC
def q_rmd (d : Nat) : Room := { frames := d + 1, cells := 0, slots := 0, locals := 49 * d + 60 }
section RUN
variable {pr : Nat → Nat → Option Op} {mt : Nat → MRow} {n : Nat} {l : Launch} {D : va_G} {cy : Nat → ClassId} {ad : Nat → Nat → Nat} {A : Nat → Prop}
/-- a run of the interpreter that answers is a run of the machine, from any frame on -/
theorem q_frame (hpr : ∀ k pc o, pr k pc = some o → q_okB mt k pc o = true) (d : Nat)
    (hd : ∀ d', d = d' + 1 → ∀ (f k : Nat) (vs : List PV) (σ : J) (v : Option PV) (σ1 : J), q_run pr n d' f k 0 (q_args 0 vs) [] σ = some (.inl v, σ1) → (vs.map q_cat).sum ≤ (mt k).2.2.1 → q_oks n vs → q_CT l mt (q_rmd d') D cy ad n A k vs σ v σ1)
    {p : Program} {e : Env} {R : Room} {s : State} {m : MethodId} {args : Array Value} {below : List Frame} {meth : Method} {c : Code} {k cells slots : Nat} (cx : q_Cx mt p s m meth c args k D cy n ad A R cells slots) (hfr : d + 1 ≤ R.frames) (hlo : 49 * d + 60 ≤ R.locals) {v : Option PV} {σ1 : J} :
    ∀ (f pc : Nat) (L : PL) (st : List PV) (σ : J), q_run pr n d f k pc L st σ = some (.inl v, σ1) → q_W mt p l e R s m args below meth c (MQ below (q_Q D cy ad n A (v.map (q_tv ad)) σ1) args s cells slots A) D cy ad n A k cells slots pc L st σ := by
  intro f
  induction f with
  | zero => intro pc L st σ h; cases h
  | succ f ih =>
    intro pc L st σ h
    unfold q_run at h
    cases ho : pr k pc with
    | none => rw [ho] at h; cases h
    | some o =>
      rw [ho] at h
      obtain ⟨ci, ox, oa, ob, ol⟩ := o
      have hok := hpr k pc _ ho
      cases d with
      | zero => exact q_all (rm := { frames := 0, cells := 0, slots := 0, locals := 0 }) cx ih ⟨rfl, rfl, hfr, by show 49 + 0 ≤ _; omega⟩ (fun _ _ _ _ _ hz => by cases hz) ⟨v, σ1, rfl, rfl⟩ hok h
      | succ d' => exact q_all (rm := q_rmd d') cx ih ⟨rfl, rfl, hfr, by show 49 + (49 * d' + 60) ≤ _; omega⟩ (fun k1 vs τ v τ1 hz => hd d' rfl f k1 vs τ v τ1 hz) ⟨v, σ1, rfl, rfl⟩ hok h
theorem q_met1 (hI : ∀ cn, va_D A (wl (idj n) ad cn)) (hpr : ∀ k pc o, pr k pc = some o → q_okB mt k pc o = true) (hpl : ∀ k, plainName (mt k).1.cls = true) (d : Nat)
    (hd : ∀ d', d = d' + 1 → ∀ (f k : Nat) (vs : List PV) (σ : J) (v : Option PV) (σ1 : J), q_run pr n d' f k 0 (q_args 0 vs) [] σ = some (.inl v, σ1) → (vs.map q_cat).sum ≤ (mt k).2.2.1 → q_oks n vs → q_CT l mt (q_rmd d') D cy ad n A k vs σ v σ1)
    (f k : Nat) (vs : List PV) (σ : J) (v : Option PV) (σ1 : J) (h : q_run pr n d f k 0 (q_args 0 vs) [] σ = some (.inl v, σ1)) (hw : (vs.map q_cat).sum ≤ (mt k).2.2.1) (hk : q_oks n vs) : q_CT l mt (q_rmd d) D cy ad n A k vs σ v σ1 := by
  refine Met.ofW (cc := (mt k).2.1) (maxL := (mt k).2.2.1) (ret := (mt k).2.2.2) (hpl k) rfl ?_
  intro p e s m args below meth c s₁ B hml hv
  obtain ⟨rfl, hP, hK⟩ := hv
  rw [lg_entry_eq]
  have cx : q_Cx mt p s m meth c (vs.map (q_tv ad)).toArray k D cy n ad A (q_rmd d) 0 0 := ⟨B.exec, B.bytes, hml, findClass_of_methodNamed B.named, fun w h => atoms_spec (ws := Cond.code (mt k).1 (mt k).2.1 (mt k).2.2.1 (mt k).2.2.2 :: gt) B.pre w (List.mem_cons_of_mem _ h), hK, B.returns, B.notSynchronized, hI, Nat.le_add_left 1 d, by show 40 ≤ 49 * d + 60; omega, Nat.le_refl 0, Nat.le_refl 0⟩
  have he := lv_entry (vs.map (q_tv ad)) (n := (mt k).2.2.1) (by rw [q_sl_len, q_cats]; exact hw)
  exact q_frame hpr d hd cx (Nat.le_refl _) (Nat.le_refl _) f 0 (q_args 0 vs) [] σ h s.heap [] _ hP va_S.rf (q_args_has he) (fun b w hb => q_oks_iff.mp hk _ (q_args_in (ad := ad) hb).1) trivial
/-- every run of the interpreter that answers is a contract of the machine -/
theorem q_met (hI : ∀ cn, va_D A (wl (idj n) ad cn)) (hpr : ∀ k pc o, pr k pc = some o → q_okB mt k pc o = true) (hpl : ∀ k, plainName (mt k).1.cls = true) :
    ∀ (d f k : Nat) (vs : List PV) (σ : J) (v : Option PV) (σ1 : J), q_run pr n d f k 0 (q_args 0 vs) [] σ = some (.inl v, σ1) → (vs.map q_cat).sum ≤ (mt k).2.2.1 → q_oks n vs → q_CT l mt (q_rmd d) D cy ad n A k vs σ v σ1 := by
  intro d
  induction d with
  | zero => exact q_met1 hI hpr hpl 0 (fun d' h => by omega)
  | succ d ih => exact q_met1 hI hpr hpl (d + 1) (fun d' h => by
      obtain rfl : d = d' := by omega
      exact ih)
end RUN
end
section
/-! More fuel, more depth, more known locals: the run answers the same. Ours, written by mono.py -/
def q_le {α : Type} (a b : Option α) : Prop := ∀ r, a = some r → b = some r
theorem q_le_n {α : Type} {b : Option α} : q_le none b := fun _ h => by cases h
theorem q_le_r {α : Type} {b : Option α} : q_le b b := fun _ h => h
theorem q_le_b {α β : Type} {a : Option α} {f g : α → Option β} (h : ∀ x, q_le (f x) (g x)) : q_le (a.bind f) (a.bind g) := fun r hr => by
  obtain ⟨x, h1, h2⟩ := Option.bind_eq_some_iff.mp hr
  exact Option.bind_eq_some_iff.mpr ⟨x, h1, h x r h2⟩
theorem q_le_bb {α β : Type} {a b : Option α} {f g : α → Option β} (h0 : q_le a b) (h : ∀ x, q_le (f x) (g x)) : q_le (a.bind f) (b.bind g) := fun r hr => by
  obtain ⟨x, h1, h2⟩ := Option.bind_eq_some_iff.mp hr
  exact Option.bind_eq_some_iff.mpr ⟨x, h0 x h1, h x r h2⟩
theorem q_le_c {α : Type} {b : Bool} {x y u v : Option α} (h1 : q_le x u) (h2 : q_le y v) : q_le (bif b then x else y) (bif b then u else v) := by
  cases b with
  | true => exact h1
  | false => exact h2
theorem q_le_i {α : Type} {c : Prop} {d : Decidable c} {x y u v : Option α} (h1 : q_le x u) (h2 : q_le y v) : q_le (@ite (Option α) c d x y) (@ite (Option α) c d u v) := by
  by_cases hc : c
  · rw [if_pos hc, if_pos hc]
    exact h1
  · rw [if_neg hc, if_neg hc]
    exact h2
theorem q_le_sw {g g' : Nat → Option Res} (h : ∀ t, q_le (g t) (g' t)) (x : Int32) (t : Nat) (l : List Nat) : ∀ v, q_le (q_sw g x v l t) (q_sw g' x v l t) := by
  induction l with
  | nil => intro v; exact h t
  | cons u r ih => intro v; exact q_le_i (h u) (ih (v + 1))
theorem q_le_af {n : Nat} {g g' : List PV → J → Option Res} (h : ∀ a b, q_le (g a b) (g' a b)) (rest : List PV) (z : Res) : q_le (q_af n g rest z) (q_af n g' rest z) := by
  match z with
  | (.inl none, σ) => exact h rest σ
  | (.inl (some v), σ) => exact q_le_c (h (v :: rest) σ) q_le_n
  | (.inr e, σ) => exact q_le_r
theorem q_le_m1 {α β : Type} {x : Option α} {a a' : Option β} {b b' : α → Option β} (h1 : q_le a a') (h2 : ∀ y, q_le (b y) (b' y)) : q_le (match x with
  | none => a
  | some y => b y) (match x with
  | none => a'
  | some y => b' y) := by
  cases x with
  | none => exact h1
  | some y => exact h2 y
theorem q_s1_mono {L M : PL} (h : ∀ a, q_le (L a) (M a)) (a : Nat) (v : PV) : ∀ b, q_le (q_s1 L a v b) (q_s1 M a v b) := by
  intro b
  refine q_le_c q_le_r (q_le_c ?_ (h b))
  intro r hr
  cases hL : L b with
  | none => rw [hL] at hr; cases hr
  | some w =>
    rw [hL] at hr
    rw [h b w hL]
    exact hr
theorem q_s2_mono {L M : PL} (h : ∀ a, q_le (L a) (M a)) (a : Nat) (v : PV) : ∀ b, q_le (q_s2 L a v b) (q_s2 M a v b) := by
  intro b
  refine q_le_c q_le_r (q_le_c q_le_r (q_le_c ?_ (h b)))
  intro r hr
  cases hL : L b with
  | none => rw [hL] at hr; cases hr
  | some w =>
    rw [hL] at hr
    rw [h b w hL]
    exact hr
section MONO
variable {n pc : Nat} {g g' : Nat → PL → List PV → J → Option Res} {cal cal' : Nat → List PV → J → Option Res} {L M : PL} {st : List PV} {σ : J} {ox : Int} {oa ob : Nat} {ol : List Nat}
theorem q_mono {ci : Nat} (hg : ∀ pc L M st σ, (∀ a, q_le (L a) (M a)) → q_le (g pc L st σ) (g' pc M st σ)) (hc : ∀ k vs σ, q_le (cal k vs σ) (cal' k vs σ)) (hL : ∀ a, q_le (L a) (M a)) : q_le (q_stp n g cal pc (ci, ox, oa, ob, ol) L st σ) (q_stp n g' cal' pc (ci, ox, oa, ob, ol) M st σ) := by
  by_cases hbig : 77 < ci ∨ ci = 5
  · rw [q_big hbig]
    exact q_le_n
  have hlt : ci < 78 := by omega
  match ci, hlt with
  | 0, _ => exact hg _ _ _ _ _ hL
  | 1, _ => exact hg _ _ _ _ _ hL
  | 2, _ => exact hg _ _ _ _ _ hL
  | 3, _ => exact hg _ _ _ _ _ hL
  | 4, _ => exact hg _ _ _ _ _ hL
  | 6, _ => exact q_le_bb (hL _) fun _ => q_le_b fun _ => hg _ _ _ _ _ hL
  | 7, _ => exact q_le_bb (hL _) fun _ => q_le_b fun _ => hg _ _ _ _ _ hL
  | 8, _ => exact q_le_bb (hL _) fun _ => q_le_b fun _ => hg _ _ _ _ _ hL
  | 9, _ => exact q_le_bb (hL _) fun _ => q_le_b fun _ => hg _ _ _ _ _ hL
  | 10, _ => exact q_le_bb (hL _) fun _ => q_le_b fun _ => hg _ _ _ _ _ hL
  | 11, _ => exact q_le_bb (hL _) fun _ => q_le_b fun _ => hg _ _ _ _ _ hL
  | 12, _ => exact q_le_b fun _ => hg _ _ _ _ _ (q_s1_mono hL _ _)
  | 13, _ => exact q_le_b fun _ => hg _ _ _ _ _ (q_s1_mono hL _ _)
  | 14, _ => exact q_le_b fun _ => hg _ _ _ _ _ (q_s2_mono hL _ _)
  | 15, _ => exact q_le_b fun _ => hg _ _ _ _ _ (q_s2_mono hL _ _)
  | 16, _ => exact q_le_b fun _ => hg _ _ _ _ _ (q_s1_mono hL _ _)
  | 17, _ => exact q_le_b fun _ => hg _ _ _ _ _ (q_s1_mono hL _ _)
  | 18, _ => exact q_le_bb (hL _) fun _ => q_le_b fun _ => hg _ _ _ _ _ (q_s1_mono hL _ _)
  | 19, _ => exact q_le_b fun _ => q_le_b fun _ => hg _ _ _ _ _ hL
  | 20, _ => exact q_le_b fun _ => q_le_b fun _ => hg _ _ _ _ _ hL
  | 21, _ => exact q_le_b fun _ => q_le_b fun _ => hg _ _ _ _ _ hL
  | 22, _ => exact q_le_b fun _ => q_le_b fun _ => q_le_i q_le_n (hg _ _ _ _ _ hL)
  | 23, _ => exact q_le_b fun _ => q_le_b fun _ => hg _ _ _ _ _ hL
  | 24, _ => exact q_le_b fun _ => q_le_b fun _ => hg _ _ _ _ _ hL
  | 25, _ => exact q_le_b fun _ => q_le_b fun _ => hg _ _ _ _ _ hL
  | 26, _ => exact q_le_b fun _ => q_le_b fun _ => hg _ _ _ _ _ hL
  | 27, _ => exact q_le_b fun _ => q_le_b fun _ => hg _ _ _ _ _ hL
  | 28, _ => exact q_le_b fun _ => q_le_b fun _ => hg _ _ _ _ _ hL
  | 29, _ => exact q_le_b fun _ => q_le_b fun _ => hg _ _ _ _ _ hL
  | 30, _ => exact q_le_b fun _ => q_le_b fun _ => hg _ _ _ _ _ hL
  | 31, _ => exact q_le_b fun _ => q_le_b fun _ => hg _ _ _ _ _ hL
  | 32, _ => exact q_le_b fun _ => q_le_b fun _ => hg _ _ _ _ _ hL
  | 33, _ => exact q_le_b fun _ => hg _ _ _ _ _ hL
  | 34, _ => exact q_le_b fun _ => hg _ _ _ _ _ hL
  | 35, _ => exact q_le_b fun _ => q_le_b fun _ => hg _ _ _ _ _ hL
  | 36, _ => exact q_le_b fun _ => hg _ _ _ _ _ hL
  | 37, _ => exact q_le_b fun _ => hg _ _ _ _ _ hL
  | 38, _ => exact q_le_b fun _ => q_le_b fun _ => hg _ _ _ _ _ hL
  | 39, _ => exact hg _ _ _ _ _ hL
  | 40, _ => exact q_le_b fun x => (by obtain ⟨x1, x2⟩ := x; cases x1 <;> exact hg _ _ _ _ _ hL)
  | 41, _ => exact q_le_b fun x => (by obtain ⟨x1, x2⟩ := x; cases x1 <;> exact hg _ _ _ _ _ hL)
  | 42, _ => exact hg _ _ _ _ _ hL
  | 43, _ => exact q_le_b fun _ => q_le_i (hg _ _ _ _ _ hL) (hg _ _ _ _ _ hL)
  | 44, _ => exact q_le_b fun _ => q_le_i (hg _ _ _ _ _ hL) (hg _ _ _ _ _ hL)
  | 45, _ => exact q_le_b fun _ => q_le_i (hg _ _ _ _ _ hL) (hg _ _ _ _ _ hL)
  | 46, _ => exact q_le_b fun _ => q_le_i (hg _ _ _ _ _ hL) (hg _ _ _ _ _ hL)
  | 47, _ => exact q_le_b fun _ => q_le_i (hg _ _ _ _ _ hL) (hg _ _ _ _ _ hL)
  | 48, _ => exact q_le_b fun _ => q_le_i (hg _ _ _ _ _ hL) (hg _ _ _ _ _ hL)
  | 49, _ => exact q_le_b fun _ => q_le_b fun _ => q_le_i (hg _ _ _ _ _ hL) (hg _ _ _ _ _ hL)
  | 50, _ => exact q_le_b fun _ => q_le_b fun _ => q_le_i (hg _ _ _ _ _ hL) (hg _ _ _ _ _ hL)
  | 51, _ => exact q_le_b fun _ => q_le_b fun _ => q_le_i (hg _ _ _ _ _ hL) (hg _ _ _ _ _ hL)
  | 52, _ => exact q_le_b fun _ => q_le_b fun _ => q_le_i (hg _ _ _ _ _ hL) (hg _ _ _ _ _ hL)
  | 53, _ => exact q_le_b fun _ => q_le_b fun _ => q_le_i (hg _ _ _ _ _ hL) (hg _ _ _ _ _ hL)
  | 54, _ => exact q_le_b fun _ => q_le_b fun _ => q_le_i (hg _ _ _ _ _ hL) (hg _ _ _ _ _ hL)
  | 55, _ => exact q_le_b fun _ => q_le_sw (fun _ => hg _ _ _ _ _ hL) _ _ _ _
  | 56, _ => exact q_le_b fun _ => q_le_b fun _ => q_le_c (q_le_b fun _ => hg _ _ _ _ _ hL) q_le_n
  | 57, _ => exact q_le_b fun _ => q_le_b fun _ => q_le_b fun _ => q_le_c (q_le_b fun _ => q_le_c (hg _ _ _ _ _ hL) (q_le_c (q_le_i (hg _ _ _ _ _ hL) q_le_n) q_le_n)) q_le_n
  | 58, _ => exact q_le_b fun _ => q_le_b fun _ => q_le_b fun _ => q_le_c (q_le_c (hg _ _ _ _ _ hL) q_le_n) q_le_n
  | 59, _ => exact q_le_b fun _ => q_le_b fun _ => q_le_b fun _ => q_le_c (q_le_c (hg _ _ _ _ _ hL) q_le_n) q_le_n
  | 60, _ => exact q_le_b fun _ => q_le_b fun _ => q_le_b fun _ => q_le_c (q_le_c (q_le_c (hg _ _ _ _ _ hL) q_le_n) q_le_n) q_le_n
  | 61, _ => exact q_le_b fun _ => q_le_b fun _ => q_le_b fun _ => q_le_c (q_le_c (hg _ _ _ _ _ hL) q_le_n) q_le_n
  | 62, _ => exact q_le_b fun _ => q_le_b fun _ => q_le_b fun _ => q_le_b fun _ => q_le_c (q_le_c (hg _ _ _ _ _ hL) q_le_n) q_le_n
  | 63, _ => exact q_le_b fun _ => q_le_b fun _ => q_le_b fun _ => q_le_b fun _ => q_le_c (q_le_c (hg _ _ _ _ _ hL) q_le_n) q_le_n
  | 64, _ => exact q_le_b fun _ => q_le_b fun _ => q_le_b fun _ => q_le_b fun _ => q_le_c (q_le_c (hg _ _ _ _ _ hL) q_le_n) q_le_n
  | 65, _ => exact q_le_b fun _ => q_le_b fun _ => q_le_b fun _ => q_le_b fun _ => q_le_c (q_le_c (q_le_i (hg _ _ _ _ _ hL) q_le_n) q_le_n) q_le_n
  | 66, _ => exact q_le_b fun _ => q_le_b fun _ => hg _ _ _ _ _ hL
  | 67, _ => exact q_le_b fun _ => q_le_b fun _ => q_le_b fun _ => q_le_c (q_le_bb (hc _ _ _) fun _ => q_le_af (fun _ _ => hg _ _ _ _ _ hL) _ _) q_le_n
  | 68, _ => exact q_le_b fun _ => q_le_c (q_le_bb (hc _ _ _) fun _ => q_le_af (fun _ _ => hg _ _ _ _ _ hL) _ _) q_le_n
  | 69, _ => exact q_le_b fun _ => q_le_b fun _ => q_le_b fun _ => q_le_b fun _ => q_le_b fun _ => q_le_b fun _ => q_le_b fun _ => q_le_c (q_le_c (hg _ _ _ _ _ hL) (q_le_c (hg _ _ _ _ _ hL) q_le_n)) q_le_n
  | 70, _ => exact q_le_b fun _ => q_le_b fun _ => q_le_c (hg _ _ _ _ _ hL) q_le_n
  | 71, _ => exact q_le_b fun _ => q_le_b fun _ => q_le_c (hg _ _ _ _ _ hL) q_le_n
  | 72, _ => exact q_le_r
  | 73, _ => exact q_le_r
  | 74, _ => exact q_le_r
  | 75, _ => exact q_le_r
  | 76, _ => exact q_le_r
  | 77, _ => exact q_le_r
  | 5, _ => exact absurd (Or.inr rfl) hbig
  | _ + 78, hl => omega
theorem q_run_mono {pr : Nat → Nat → Option Op} : ∀ (f f' d d' k pc : Nat) (L M : PL) (st : List PV) (σ : J), f ≤ f' → d ≤ d' → (∀ a, q_le (L a) (M a)) → q_le (q_run pr n d f k pc L st σ) (q_run pr n d' f' k pc M st σ) := by
  intro f
  induction f with
  | zero => intro f' d d' k pc L M st σ _ _ _; exact q_le_n
  | succ f ih =>
    intro f' d d' k pc L M st σ hf hd hL
    cases f' with
    | zero => omega
    | succ f' =>
      unfold q_run
      cases pr k pc with
      | none => exact q_le_r
      | some o =>
        obtain ⟨ci, ox, oa, ob, ol⟩ := o
        refine q_mono (fun pc L M st σ h => ih f' d d' k pc L M st σ (by omega) hd h) (fun k' vs σ' => ?_) hL
        cases d with
        | zero => exact q_le_n
        | succ d =>
          cases d' with
          | zero => omega
          | succ d' => exact ih f' d d' k' 0 _ _ _ _ (by omega) (by omega) (fun _ => q_le_r)
end MONO
/-- the run from here on answers r -/
def q_ex (pr : Nat → Nat → Option Op) (n d k pc : Nat) (L : PL) (st : List PV) (σ : J) (r : Res) : Prop := ∃ f, q_run pr n d f k pc L st σ = some r
theorem q_ex_go {pr : Nat → Nat → Option Op} {n d k pc pc' : Nat} {L L' : PL} {st st' : List PV} {σ σ' : J} {r : Res} (j : Nat) (h : ∀ f, q_run pr n d (f + j) k pc L st σ = q_run pr n d f k pc' L' st' σ') (e : q_ex pr n d k pc' L' st' σ' r) : q_ex pr n d k pc L st σ r := by
  obtain ⟨f, hf⟩ := e
  exact ⟨f + j, (h f).trans hf⟩
theorem q_ex_le {pr : Nat → Nat → Option Op} {n d d' k pc : Nat} {L M : PL} {st : List PV} {σ : J} {r : Res} (hd : d ≤ d') (hL : ∀ a, q_le (L a) (M a)) (e : q_ex pr n d k pc L st σ r) : q_ex pr n d' k pc M st σ r := by
  obtain ⟨f, hf⟩ := e
  exact ⟨f, q_run_mono f f d d' k pc L M st σ (Nat.le_refl _) hd hL r hf⟩
end
section
/-! Runs of the interpreter, step by step: what the written functions lean on. Ours. -/
def q_bs {α β : Type} (a : α) (k : α → β) : β := k a
theorem q_nm {α β : Type} {a : α} {k : α → β} {r : β} {G : α → Prop} (h : q_bs a k = r) (kk : ∀ x : α, k x = r → G x) : G a := kk a h
theorem q_by {α : Type} {c : Prop} {d : Decidable c} {x : Option α} {r : α} {G : Prop} (h : @ite (Option α) c d x none = some r) (k : c → x = some r → G) : G := by
  by_cases hc : c
  · rw [if_pos hc] at h
    exact k hc h
  · rw [if_neg hc] at h
    cases h
theorem q_byn {α : Type} {c : Prop} {d : Decidable c} {x : Option α} {r : α} {G : Prop} (h : @ite (Option α) c d none x = some r) (k : ¬ c → x = some r → G) : G := by
  by_cases hc : c
  · rw [if_pos hc] at h
    cases h
  · rw [if_neg hc] at h
    exact k hc h
theorem q_bt {b : Bool} (h : b = true) : (b && true) = true := by rw [h]; rfl
def q_L : List (Nat × PV) → PL
  | [] => fun _ => none
  | q :: r => fun b => bif Nat.beq b q.1 then some q.2 else q_L r b
def q_Ls (M : PL) : List (Nat × PV) → Prop
  | [] => True
  | q :: r => M q.1 = some q.2 ∧ q_Ls M r
theorem q_L_le {M : PL} : ∀ {l : List (Nat × PV)}, q_Ls M l → ∀ a, q_le (q_L l a) (M a) := by
  intro l
  induction l with
  | nil => intro _ a; exact q_le_n
  | cons q r ih =>
    intro h a
    show q_le (bif Nat.beq a q.1 then some q.2 else q_L r a) (M a)
    cases hb : Nat.beq a q.1 with
    | true =>
      obtain rfl := Nat.eq_of_beq_eq_true hb
      rw [h.1]
      exact q_le_r
    | false => exact ih h.2 a
theorem q_ex_ll {pr : Nat → Nat → Option Op} {n d k pc : Nat} {l : List (Nat × PV)} {M : PL} {st : List PV} {σ : J} {r : Res} (e : q_ex pr n d k pc (q_L l) st σ r) (h : q_Ls M l) : q_ex pr n d k pc M st σ r := q_ex_le (Nat.le_refl _) (q_L_le h) e
theorem q_ex_dd {pr : Nat → Nat → Option Op} {n d d' k pc : Nat} {L : PL} {st : List PV} {σ : J} {r : Res} (e : q_ex pr n d k pc L st σ r) (h : d ≤ d') : q_ex pr n d' k pc L st σ r := q_ex_le h (fun _ => q_le_r) e
section EX
variable {pr : Nat → Nat → Option Op} {n d k pc pc' pc1 pc2 : Nat} {L L' : PL} {st st' rest : List PV} {σ σ' σ'' : J} {r : Res}
theorem q_ex_gb (j : Nat) {b : Bool} (h : ∀ f, q_run pr n d (f + j) k pc L st σ = bif b then q_run pr n d f k pc' L' st' σ' else none) (hb : b = true) (e : q_ex pr n d k pc' L' st' σ' r) : q_ex pr n d k pc L st σ r := by
  obtain ⟨f, hf⟩ := e
  refine ⟨f + j, (h f).trans ?_⟩
  rw [hb]
  exact hf
theorem q_ex_gi (j : Nat) {c : Prop} {dc : Decidable c} (h : ∀ f, q_run pr n d (f + j) k pc L st σ = @ite _ c dc (q_run pr n d f k pc' L' st' σ') none) (hb : c) (e : q_ex pr n d k pc' L' st' σ' r) : q_ex pr n d k pc L st σ r := by
  obtain ⟨f, hf⟩ := e
  refine ⟨f + j, (h f).trans ?_⟩
  rw [if_pos hb]
  exact hf
theorem q_ex_gn (j : Nat) {c : Prop} {dc : Decidable c} (h : ∀ f, q_run pr n d (f + j) k pc L st σ = @ite _ c dc none (q_run pr n d f k pc' L' st' σ')) (hb : ¬ c) (e : q_ex pr n d k pc' L' st' σ' r) : q_ex pr n d k pc L st σ r := by
  obtain ⟨f, hf⟩ := e
  refine ⟨f + j, (h f).trans ?_⟩
  rw [if_neg hb]
  exact hf
theorem q_ex_g2 (j : Nat) {b b2 : Bool} (h : ∀ f, q_run pr n d (f + j) k pc L st σ = bif b then (bif b2 then q_run pr n d f k pc' L' st' σ' else none) else none) (hb : b = true) (hb2 : b2 = true) (e : q_ex pr n d k pc' L' st' σ' r) : q_ex pr n d k pc L st σ r := by
  obtain ⟨f, hf⟩ := e
  refine ⟨f + j, (h f).trans ?_⟩
  rw [hb, hb2]
  exact hf
theorem q_ex_gz (j : Nat) {b : Bool} {c : Prop} {dc : Decidable c} (h : ∀ f, q_run pr n d (f + j) k pc L st σ = bif b then (@ite _ c dc (q_run pr n d f k pc' L' st' σ') none) else none) (hb : b = true) (hb2 : c) (e : q_ex pr n d k pc' L' st' σ' r) : q_ex pr n d k pc L st σ r := by
  obtain ⟨f, hf⟩ := e
  refine ⟨f + j, (h f).trans ?_⟩
  rw [hb, if_pos hb2]
  exact hf
theorem q_ex_br (j : Nat) {c : Prop} {dc : Decidable c} (h : ∀ f, q_run pr n d (f + j) k pc L st σ = @ite _ c dc (q_run pr n d f k pc1 L' st' σ') (q_run pr n d f k pc2 L' st' σ')) (h1 : c → q_ex pr n d k pc1 L' st' σ' r) (h2 : ¬ c → q_ex pr n d k pc2 L' st' σ' r) : q_ex pr n d k pc L st σ r := by
  by_cases hc : c
  · obtain ⟨f, hf⟩ := h1 hc
    exact ⟨f + j, (h f).trans ((if_pos hc).trans hf)⟩
  · obtain ⟨f, hf⟩ := h2 hc
    exact ⟨f + j, (h f).trans ((if_neg hc).trans hf)⟩
def q_exsw (pr : Nat → Nat → Option Op) (n d k : Nat) (L : PL) (st : List PV) (σ : J) (r : Res) (x : Int32) (lo : Nat) (ts : List Nat) (t : Nat) : Prop := ∃ f, q_sw (fun t => q_run pr n d f k t L st σ) x lo ts t = some r
theorem q_ex_sw (j : Nat) {x : Int32} {lo t : Nat} {ts : List Nat} (h : ∀ f, q_run pr n d (f + j) k pc L st σ = q_sw (fun t => q_run pr n d f k t L' st' σ') x lo ts t) (e : q_exsw pr n d k L' st' σ' r x lo ts t) : q_ex pr n d k pc L st σ r := by
  obtain ⟨f, hf⟩ := e
  exact ⟨f + j, (h f).trans hf⟩
theorem q_sw_c {x : Int32} {lo t u : Nat} {ts : List Nat} (h1 : x = Int32.ofNat lo → q_ex pr n d k u L st σ r) (h2 : ¬ x = Int32.ofNat lo → q_exsw pr n d k L st σ r x (lo + 1) ts t) : q_exsw pr n d k L st σ r x lo (u :: ts) t := by
  by_cases hc : x = Int32.ofNat lo
  · obtain ⟨f, hf⟩ := h1 hc
    exact ⟨f, (if_pos hc).trans hf⟩
  · obtain ⟨f, hf⟩ := h2 hc
    exact ⟨f, (if_neg hc).trans hf⟩
theorem q_sw_d {x : Int32} {lo t : Nat} (h : q_ex pr n d k t L st σ r) : q_exsw pr n d k L st σ r x lo [] t := h
def q_okr (n : Nat) (v : Option PV) : Bool := match v with
  | none => true
  | some w => q_ok n w
theorem q_ex_ca (j : Nat) {k1 : Nat} {vs : List PV} {v : Option PV} (h : ∀ f, q_run pr n (d + 1) (f + j) k pc L st σ = (q_run pr n d f k1 0 (q_args 0 vs) [] σ').bind (q_af n (fun st2 σ2 => q_run pr n (d + 1) f k pc' L' st2 σ2) rest)) (hc : q_ex pr n d k1 0 (q_args 0 vs) [] σ' (.inl v, σ'')) (hv : q_okr n v = true) (e : q_ex pr n (d + 1) k pc' L' (v.toList ++ rest) σ'' r) : q_ex pr n (d + 1) k pc L st σ r := by
  obtain ⟨f1, h1⟩ := hc
  obtain ⟨f2, h2⟩ := e
  refine ⟨max f1 f2 + j, (h _).trans ?_⟩
  rw [q_run_mono f1 (max f1 f2) d d k1 0 _ _ _ _ (Nat.le_max_left _ _) (Nat.le_refl _) (fun _ => q_le_r) _ h1]
  have h3 := q_run_mono f2 (max f1 f2) (d + 1) (d + 1) k pc' _ _ _ _ (Nat.le_max_right _ _) (Nat.le_refl _) (fun _ => q_le_r) _ h2
  cases v with
  | none => exact h3
  | some w =>
    show (bif q_ok n w then _ else none) = _
    rw [show q_ok n w = true from hv]
    exact h3
theorem q_ex_cx (j : Nat) {k1 ex : Nat} {vs : List PV} (h : ∀ f, q_run pr n (d + 1) (f + j) k pc L st σ = (q_run pr n d f k1 0 (q_args 0 vs) [] σ').bind (q_af n (fun st2 σ2 => q_run pr n (d + 1) f k pc' L' st2 σ2) rest)) (hc : q_ex pr n d k1 0 (q_args 0 vs) [] σ' (.inr ex, σ'')) : q_ex pr n (d + 1) k pc L st σ (.inr ex, σ'') := by
  obtain ⟨f1, h1⟩ := hc
  refine ⟨f1 + j, (h _).trans ?_⟩
  rw [h1]
  rfl
end EX
end
section
/-! The methods and their instructions, for the interpreter. Ours, written by ops.py -/
def q_mtl : List MRow := [(⟨"JobBoard", "abandon", "(I)I"⟩, prog_1_method_14_code, 4, (some .int)),
  (⟨"JobBoard", "abandonDownTo", "(LJobBoard$Session;I)Z"⟩, prog_1_method_36_code, 5, (some .boolean)),
  (⟨"JobBoard", "about", "(II)J"⟩, prog_1_method_21_code, 4, (some .long)),
  (⟨"JobBoard", "collect", "(I)I"⟩, prog_1_method_11_code, 2, (some .int)),
  (⟨"JobBoard", "combine", "(IJJ)J"⟩, prog_1_method_26_code, 5, (some .long)),
  (⟨"JobBoard", "commit", "(I)I"⟩, prog_1_method_13_code, 4, (some .int)),
  (⟨"JobBoard", "endTuple", "(LJobBoard$Tuple;)Z"⟩, prog_1_method_37_code, 4, (some .boolean)),
  (⟨"JobBoard", "endWait", "(LJobBoard$Session;I)V"⟩, prog_1_method_34_code, 3, none),
  (⟨"JobBoard", "extend", "(LJobBoard$Session;II)Z"⟩, prog_1_method_30_code, 7, (some .boolean)),
  (⟨"JobBoard", "field", "(IIJ)I"⟩, prog_1_method_2_code, 6, (some .int)),
  (⟨"JobBoard", "find", "(III)I"⟩, prog_1_method_6_code, 5, (some .int)),
  (⟨"JobBoard", "fitsAlone", "(LJobBoard$Pattern;LJobBoard$Tuple;)Z"⟩, prog_1_method_28_code, 3, (some .boolean)),
  (⟨"JobBoard", "fold", "(III)J"⟩, prog_1_method_9_code, 12, (some .long)),
  (⟨"JobBoard", "forget", "(II)I"⟩, prog_1_method_4_code, 4, (some .int)),
  (⟨"JobBoard", "form", "(IIIJJ)I"⟩, prog_1_method_3_code, 10, (some .int)),
  (⟨"JobBoard", "found", "(II)J"⟩, prog_1_method_19_code, 4, (some .long)),
  (⟨"JobBoard", "grant", "(LJobBoard$Session;)V"⟩, prog_1_method_31_code, 4, none),
  (⟨"JobBoard", "isSpan", "(I)Z"⟩, prog_1_method_24_code, 1, (some .boolean)),
  (⟨"JobBoard", "leaseEnd", "(I)I"⟩, prog_1_method_25_code, 2, (some .int)),
  (⟨"JobBoard", "now", "()I"⟩, prog_1_method_17_code, 1, (some .int)),
  (⟨"JobBoard", "open", "(I)I"⟩, prog_1_method_12_code, 3, (some .int)),
  (⟨"JobBoard", "order", "(I)I"⟩, prog_1_method_10_code, 3, (some .int)),
  (⟨"JobBoard", "placeDraft", "(LJobBoard$Session;I)I"⟩, prog_1_method_27_code, 4, (some .int)),
  (⟨"JobBoard", "put", "(II)I"⟩, prog_1_method_5_code, 4, (some .int)),
  (⟨"JobBoard", "readySession", "(I)LJobBoard$Session;"⟩, prog_1_method_23_code, 3, (some (.object "JobBoard$Session"))),
  (⟨"JobBoard", "renew", "(III)Z"⟩, prog_1_method_15_code, 5, (some .boolean)),
  (⟨"JobBoard", "report", "(LJobBoard$Tuple;)V"⟩, prog_1_method_32_code, 3, none),
  (⟨"JobBoard", "searchFor", "(LJobBoard$Session;I)Z"⟩, prog_1_method_29_code, 3, (some .boolean)),
  (⟨"JobBoard", "seen", "(II)I"⟩, prog_1_method_20_code, 6, (some .int)),
  (⟨"JobBoard", "serveLine", "()V"⟩, prog_1_method_33_code, 4, none),
  (⟨"JobBoard", "session", "(II)I"⟩, prog_1_method_18_code, 4, (some .int)),
  (⟨"JobBoard", "sessionAt", "(I)LJobBoard$Session;"⟩, prog_1_method_22_code, 2, (some (.object "JobBoard$Session"))),
  (⟨"JobBoard", "settle", "(I)V"⟩, prog_1_method_35_code, 5, none),
  (⟨"JobBoard", "stop", "(I)Z"⟩, prog_1_method_7_code, 3, (some .boolean)),
  (⟨"JobBoard", "swap", "(I)I"⟩, prog_1_method_8_code, 4, (some .int)),
  (⟨"JobBoard", "tick", "(I)I"⟩, prog_1_method_16_code, 6, (some .int)),
  (⟨"JobBoard$Board", "add", "(LJobBoard$Fields;I)LJobBoard$Tuple;"⟩, prog_2_method_3_code, 4, (some (.object "JobBoard$Tuple"))),
  (⟨"JobBoard$Board", "closeGaps", "()V"⟩, prog_2_method_8_code, 4, none),
  (⟨"JobBoard$Board", "countInDeal", "(II)I"⟩, prog_2_method_5_code, 5, (some .int)),
  (⟨"JobBoard$Board", "handOver", "(II)V"⟩, prog_2_method_6_code, 5, none),
  (⟨"JobBoard$Board", "isFull", "()Z"⟩, prog_2_method_2_code, 3, (some .boolean)),
  (⟨"JobBoard$Board", "lookUp", "(I)LJobBoard$Tuple;"⟩, prog_2_method_4_code, 3, (some (.object "JobBoard$Tuple"))),
  (⟨"JobBoard$Board", "undo", "(II)Z"⟩, prog_2_method_7_code, 6, (some .boolean)),
  (⟨"JobBoard$Fields", "append", "(IJ)I"⟩, prog_3_method_2_code, 4, (some .int)),
  (⟨"JobBoard$Fields", "copyFrom", "(LJobBoard$Fields;)V"⟩, prog_3_method_4_code, 2, none),
  (⟨"JobBoard$Fields", "empty", "()I"⟩, prog_3_method_3_code, 2, (some .int)),
  (⟨"JobBoard$Fields", "kindAt", "(I)I"⟩, prog_3_method_5_code, 2, (some .int)),
  (⟨"JobBoard$Fields", "valueAt", "(I)J"⟩, prog_3_method_6_code, 2, (some .long)),
  (⟨"JobBoard$Finding", "bindOrCompare", "(IIJ)Z"⟩, prog_4_method_9_code, 6, (some .boolean)),
  (⟨"JobBoard$Finding", "clear", "()V"⟩, prog_4_method_2_code, 2, none),
  (⟨"JobBoard$Finding", "copyFrom", "(LJobBoard$Finding;)V"⟩, prog_4_method_3_code, 2, none),
  (⟨"JobBoard$Finding", "hasNumber", "(I)Z"⟩, prog_4_method_4_code, 3, (some .boolean)),
  (⟨"JobBoard$Finding", "isBound", "(I)Z"⟩, prog_4_method_6_code, 2, (some .boolean)),
  (⟨"JobBoard$Finding", "kindOf", "(I)I"⟩, prog_4_method_7_code, 2, (some .int)),
  (⟨"JobBoard$Finding", "numberFor", "(I)I"⟩, prog_4_method_5_code, 2, (some .int)),
  (⟨"JobBoard$Finding", "valueOf", "(I)J"⟩, prog_4_method_8_code, 2, (some .long)),
  (⟨"JobBoard$Line", "append", "(I)V"⟩, prog_5_method_2_code, 2, none),
  (⟨"JobBoard$Line", "placeOf", "(I)I"⟩, prog_5_method_3_code, 3, (some .int)),
  (⟨"JobBoard$Line", "remove", "(I)V"⟩, prog_5_method_4_code, 3, none),
  (⟨"JobBoard$Order", "addReport", "(I)V"⟩, prog_6_method_2_code, 2, none),
  (⟨"JobBoard$Order", "takeOldest", "()I"⟩, prog_6_method_3_code, 2, (some .int)),
  (⟨"JobBoard$Pattern", "append", "(IJJ)I"⟩, prog_7_method_3_code, 6, (some .int)),
  (⟨"JobBoard$Pattern", "copyFrom", "(LJobBoard$Pattern;)V"⟩, prog_7_method_5_code, 2, none),
  (⟨"JobBoard$Pattern", "empty", "()I"⟩, prog_7_method_4_code, 2, (some .int)),
  (⟨"JobBoard$Pattern", "fits", "(LJobBoard$Fields;LJobBoard$Finding;)Z"⟩, prog_7_method_6_code, 4, (some .boolean)),
  (⟨"JobBoard$Pattern", "holds", "(IIJLJobBoard$Finding;)Z"⟩, prog_7_method_7_code, 10, (some .boolean)),
  (⟨"JobBoard$Pattern", "isForm", "(IJ)Z"⟩, prog_7_method_2_code, 3, (some .boolean)),
  (⟨"JobBoard$Session", "ask", "(IZ)V"⟩, prog_8_method_3_code, 3, none),
  (⟨"JobBoard$Session", "hasPatterns", "(I)Z"⟩, prog_8_method_2_code, 3, (some .boolean)),
  (⟨"JobBoard$Tuple", "begin", "(ILJobBoard$Fields;I)V"⟩, prog_9_method_2_code, 4, none),
  (⟨"JobBoard$Tuple", "giveBack", "()V"⟩, prog_9_method_11_code, 1, none),
  (⟨"JobBoard$Tuple", "isOverAt", "(I)Z"⟩, prog_9_method_4_code, 2, (some .boolean)),
  (⟨"JobBoard$Tuple", "isPutIn", "(II)Z"⟩, prog_9_method_6_code, 3, (some .boolean)),
  (⟨"JobBoard$Tuple", "isSeenBy", "(I)Z"⟩, prog_9_method_3_code, 2, (some .boolean)),
  (⟨"JobBoard$Tuple", "isTaken", "()Z"⟩, prog_9_method_5_code, 1, (some .boolean)),
  (⟨"JobBoard$Tuple", "isTakenBy", "(II)Z"⟩, prog_9_method_7_code, 3, (some .boolean)),
  (⟨"JobBoard$Tuple", "putInto", "(II)V"⟩, prog_9_method_8_code, 3, none),
  (⟨"JobBoard$Tuple", "putOutside", "()V"⟩, prog_9_method_9_code, 1, none),
  (⟨"JobBoard$Tuple", "takeFor", "(II)V"⟩, prog_9_method_10_code, 3, none),
  (⟨"JobBoardModel", "abandon", "(I)I"⟩, prog_11_method_37_code, 3, (some .int)),
  (⟨"JobBoardModel", "about", "(II)J"⟩, prog_11_method_45_code, 4, (some .long)),
  (⟨"JobBoardModel", "add", "(II)I"⟩, prog_11_method_23_code, 6, (some .int)),
  (⟨"JobBoardModel", "bound", "(II)Z"⟩, prog_11_method_13_code, 3, (some .boolean)),
  (⟨"JobBoardModel", "clear", "(I)V"⟩, prog_11_method_3_code, 3, none),
  (⟨"JobBoardModel", "collect", "(I)I"⟩, prog_11_method_31_code, 4, (some .int)),
  (⟨"JobBoardModel", "commit", "(I)I"⟩, prog_11_method_35_code, 8, (some .int)),
  (⟨"JobBoardModel", "drop", "(I)I"⟩, prog_11_method_36_code, 6, (some .int)),
  (⟨"JobBoardModel", "ending", "()I"⟩, prog_11_method_39_code, 2, (some .int)),
  (⟨"JobBoardModel", "field", "(IIJ)I"⟩, prog_11_method_8_code, 5, (some .int)),
  (⟨"JobBoardModel", "find", "(III)I"⟩, prog_11_method_26_code, 4, (some .int)),
  (⟨"JobBoardModel", "first", "(IZ)I"⟩, prog_11_method_6_code, 3, (some .int)),
  (⟨"JobBoardModel", "fits", "(III)Z"⟩, prog_11_method_14_code, 6, (some .boolean)),
  (⟨"JobBoardModel", "fold", "(III)J"⟩, prog_11_method_29_code, 15, (some .long)),
  (⟨"JobBoardModel", "forget", "(II)I"⟩, prog_11_method_10_code, 4, (some .int)),
  (⟨"JobBoardModel", "form", "(IIIJJ)I"⟩, prog_11_method_9_code, 12, (some .int)),
  (⟨"JobBoardModel", "found", "(II)J"⟩, prog_11_method_43_code, 3, (some .long)),
  (⟨"JobBoardModel", "holds", "(III)Z"⟩, prog_11_method_12_code, 5, (some .boolean)),
  (⟨"JobBoardModel", "isPut", "(II)Z"⟩, prog_11_method_33_code, 3, (some .boolean)),
  (⟨"JobBoardModel", "isSession", "(I)Z"⟩, prog_11_method_4_code, 2, (some .boolean)),
  (⟨"JobBoardModel", "isTaken", "(II)Z"⟩, prog_11_method_34_code, 3, (some .boolean)),
  (⟨"JobBoardModel", "keep", "(IIZ)V"⟩, prog_11_method_17_code, 6, none),
  (⟨"JobBoardModel", "leave", "(I)V"⟩, prog_11_method_21_code, 3, none),
  (⟨"JobBoardModel", "next", "(III)I"⟩, prog_11_method_15_code, 6, (some .int)),
  (⟨"JobBoardModel", "now", "()I"⟩, prog_11_method_41_code, 1, (some .int)),
  (⟨"JobBoardModel", "open", "(I)I"⟩, prog_11_method_32_code, 2, (some .int)),
  (⟨"JobBoardModel", "order", "(I)I"⟩, prog_11_method_30_code, 4, (some .int)),
  (⟨"JobBoardModel", "outside", "(I)V"⟩, prog_11_method_20_code, 3, none),
  (⟨"JobBoardModel", "place", "(I)I"⟩, prog_11_method_18_code, 4, (some .int)),
  (⟨"JobBoardModel", "put", "(II)I"⟩, prog_11_method_24_code, 3, (some .int)),
  (⟨"JobBoardModel", "ready", "(II)Z"⟩, prog_11_method_25_code, 5, (some .boolean)),
  (⟨"JobBoardModel", "remove", "(I)V"⟩, prog_11_method_19_code, 4, none),
  (⟨"JobBoardModel", "renew", "(III)Z"⟩, prog_11_method_38_code, 5, (some .boolean)),
  (⟨"JobBoardModel", "search", "(II)Z"⟩, prog_11_method_16_code, 4, (some .boolean)),
  (⟨"JobBoardModel", "seen", "(II)I"⟩, prog_11_method_44_code, 5, (some .int)),
  (⟨"JobBoardModel", "sees", "(II)Z"⟩, prog_11_method_11_code, 3, (some .boolean)),
  (⟨"JobBoardModel", "serve", "()V"⟩, prog_11_method_22_code, 3, none),
  (⟨"JobBoardModel", "session", "(II)I"⟩, prog_11_method_42_code, 3, (some .int)),
  (⟨"JobBoardModel", "standing", "(I)I"⟩, prog_11_method_5_code, 4, (some .int)),
  (⟨"JobBoardModel", "stop", "(I)Z"⟩, prog_11_method_27_code, 2, (some .boolean)),
  (⟨"JobBoardModel", "swap", "(I)I"⟩, prog_11_method_28_code, 3, (some .int)),
  (⟨"JobBoardModel", "thrown", "()I"⟩, prog_11_method_2_code, 1, (some .int)),
  (⟨"JobBoardModel", "tick", "(I)I"⟩, prog_11_method_40_code, 8, (some .int)),
  (⟨"JobBoardModel", "within", "(JJ)Z"⟩, prog_11_method_7_code, 4, (some .boolean)),
  (⟨"JobBoardLaw", "abandon", "(LJobBoard;I[J)I"⟩, method_15_code, 4, (some .int)),
  (⟨"JobBoardLaw", "collect", "(LJobBoard;I[J)I"⟩, method_12_code, 4, (some .int)),
  (⟨"JobBoardLaw", "commit", "(LJobBoard;I[J)I"⟩, method_14_code, 4, (some .int)),
  (⟨"JobBoardLaw", "field", "(LJobBoard;IIJ[J)I"⟩, method_3_code, 7, (some .int)),
  (⟨"JobBoardLaw", "find", "(LJobBoard;III[J)I"⟩, method_7_code, 6, (some .int)),
  (⟨"JobBoardLaw", "fold", "(LJobBoard;III[J)I"⟩, method_10_code, 6, (some .int)),
  (⟨"JobBoardLaw", "forget", "(LJobBoard;II[J)I"⟩, method_5_code, 5, (some .int)),
  (⟨"JobBoardLaw", "form", "(LJobBoard;IIIJJ[J)I"⟩, method_4_code, 10, (some .int)),
  (⟨"JobBoardLaw", "found", "(LJobBoard;II[J)I"⟩, method_19_code, 5, (some .int)),
  (⟨"JobBoardLaw", "open", "(LJobBoard;I[J)I"⟩, method_13_code, 4, (some .int)),
  (⟨"JobBoardLaw", "order", "(LJobBoard;I[J)I"⟩, method_11_code, 4, (some .int)),
  (⟨"JobBoardLaw", "put", "(LJobBoard;II[J)I"⟩, method_6_code, 5, (some .int)),
  (⟨"JobBoardLaw", "renew", "(LJobBoard;III[J)I"⟩, method_16_code, 6, (some .int)),
  (⟨"JobBoardLaw", "seen", "(LJobBoard;II[J)I"⟩, method_20_code, 5, (some .int)),
  (⟨"JobBoardLaw", "session", "(LJobBoard;II[J)I"⟩, method_18_code, 5, (some .int)),
  (⟨"JobBoardLaw", "stop", "(LJobBoard;I[J)I"⟩, method_8_code, 4, (some .int)),
  (⟨"JobBoardLaw", "swap", "(LJobBoard;I[J)I"⟩, method_9_code, 4, (some .int)),
  (⟨"JobBoardLaw", "tick", "(LJobBoard;I[J)I"⟩, method_17_code, 4, (some .int)),
  (⟨"JobBoardLaw", "law", "([I)Z"⟩, code, 8, some .boolean)]
def q_mt (k : Nat) : MRow := q_mtl.getD k (⟨"A", "", ""⟩, code, 0, none)
-- 0: JB_abandon
def o_0 : List (Nat × Op) := [(0, (10, 0, 0, 0, [])), (1, (6, 0, 1, 0, [])), (2, (67, 0, 55, 24, [1, 0, 1, 336, 338, 0, 40, 339])), (5, (16, 0, 2, 0, [])), (6, (10, 0, 2, 0, [])), (7, (56, 0, 147, 4, [6, 153])), (10, (44, 5, 15, 0, [])), (13, (0, (-1), 0, 0, [])), (14, (72, 0, 0, 0, [])), (15, (10, 0, 0, 0, [])), (16, (56, 0, 30, 1, [0, 279])), (19, (6, 0, 1, 0, [])), (20, (10, 0, 2, 0, [])), (21, (56, 0, 147, 4, [6, 153])), (24, (67, 0, 197, 38, [2, 1, 2, 715, 716, 717, 46, 718])), (27, (12, 0, 3, 0, [])), (28, (10, 0, 0, 0, [])), (29, (10, 0, 2, 0, [])), (30, (10, 0, 2, 0, [])), (31, (56, 0, 147, 4, [6, 153])), (34, (67, 0, 207, 1, [2, 0, 2, 747, 749, 15, 40, 750])), (37, (43, 7, 44, 0, [])), (40, (10, 0, 0, 0, [])), (41, (67, 0, 210, 29, [0, 0, 0, 576, 578, 9, 40, 579])), (44, (6, 0, 3, 0, [])), (45, (72, 0, 0, 0, []))]
-- 1: JB_abandonDownTo
def o_1 : List (Nat × Op) := [(0, (0, 0, 0, 0, [])), (1, (12, 0, 3, 0, [])), (2, (10, 0, 1, 0, [])), (3, (56, 0, 147, 4, [6, 153])), (6, (13, 0, 4, 0, [])), (8, (7, 0, 4, 0, [])), (10, (6, 0, 2, 0, [])), (11, (51, 25, 36, 0, [])), (14, (6, 0, 3, 0, [])), (15, (10, 0, 0, 0, [])), (16, (56, 0, 30, 1, [0, 279])), (19, (10, 0, 1, 0, [])), (20, (56, 0, 265, 0, [6, 146])), (23, (7, 0, 4, 0, [])), (25, (67, 0, 328, 42, [2, 1, 2, 751, 752, 753, 46, 754])), (28, (24, 0, 0, 0, [])), (29, (12, 0, 3, 0, [])), (30, (18, (-1), 4, 0, [])), (33, (42, (-25), 8, 0, [])), (36, (10, 0, 1, 0, [])), (37, (6, 0, 2, 0, [])), (38, (0, 1, 0, 0, [])), (39, (20, 0, 0, 0, [])), (40, (57, 0, 147, 4, [6, 153])), (43, (6, 0, 3, 0, [])), (44, (73, 0, 0, 0, []))]
-- 2: JB_about
def o_2 : List (Nat × Op) := [(0, (10, 0, 0, 0, [])), (1, (56, 0, 30, 1, [0, 279])), (4, (6, 0, 1, 0, [])), (5, (67, 0, 213, 41, [1, 1, 1, 308, 309, 310, 46, 311])), (8, (16, 0, 3, 0, [])), (9, (10, 0, 3, 0, [])), (10, (41, 7, 17, 0, [])), (13, (4, (-1), 242, 312, [])), (16, (74, 0, 0, 0, [])), (17, (6, 0, 2, 0, [])), (18, (55, 57, 0, 75, [30, 48, 57, 63, 69])), (48, (10, 0, 3, 0, [])), (49, (56, 0, 166, 7, [2, 208])), (52, (56, 0, 66, 0, [3, 87])), (55, (33, 0, 0, 0, [])), (56, (74, 0, 0, 0, [])), (57, (10, 0, 3, 0, [])), (58, (56, 0, 217, 2, [2, 199])), (61, (33, 0, 0, 0, [])), (62, (74, 0, 0, 0, [])), (63, (10, 0, 3, 0, [])), (64, (56, 0, 247, 3, [2, 201])), (67, (33, 0, 0, 0, [])), (68, (74, 0, 0, 0, [])), (69, (10, 0, 3, 0, [])), (70, (56, 0, 250, 5, [2, 204])), (73, (33, 0, 0, 0, [])), (74, (74, 0, 0, 0, [])), (75, (6, 0, 2, 0, [])), (76, (1, 8, 0, 0, [])), (78, (51, 17, 95, 0, [])), (81, (10, 0, 3, 0, [])), (82, (56, 0, 166, 7, [2, 208])), (85, (6, 0, 2, 0, [])), (86, (1, 8, 0, 0, [])), (88, (20, 0, 0, 0, [])), (89, (67, 0, 172, 47, [1, 3, 1, 313, 314, 315, 43, 316])), (92, (42, 14, 106, 0, [])), (95, (10, 0, 3, 0, [])), (96, (56, 0, 166, 7, [2, 208])), (99, (6, 0, 2, 0, [])), (100, (0, 4, 0, 0, [])), (101, (20, 0, 0, 0, [])), (102, (67, 0, 169, 46, [1, 3, 1, 318, 319, 320, 43, 321])), (105, (33, 0, 0, 0, [])), (106, (74, 0, 0, 0, []))]
-- 3: JB_collect
def o_3 : List (Nat × Op) := [(0, (6, 0, 1, 0, [])), (1, (45, 11, 12, 0, [])), (4, (6, 0, 1, 0, [])), (5, (10, 0, 0, 0, [])), (6, (56, 0, 180, 4, [0, 282])), (9, (51, 11, 20, 0, [])), (12, (77, 0, 1, 0, [])), (20, (10, 0, 0, 0, [])), (21, (56, 0, 43, 3, [0, 281])), (24, (6, 0, 1, 0, [])), (25, (60, 0, 0, 0, [])), (26, (67, 0, 194, 60, [0, 7, 0, 696, 697, 698, 49, 699])), (29, (72, 0, 0, 0, []))]
-- 4: JB_combine
def o_4 : List (Nat × Op) := [(0, (6, 0, 0, 0, [])), (1, (0, 1, 0, 0, [])), (2, (50, 7, 9, 0, [])), (5, (8, 0, 1, 0, [])), (6, (8, 0, 3, 0, [])), (7, (27, 0, 0, 0, [])), (8, (74, 0, 0, 0, [])), (9, (6, 0, 0, 0, [])), (10, (0, 2, 0, 0, [])), (11, (50, 11, 22, 0, [])), (14, (8, 0, 1, 0, [])), (15, (8, 0, 3, 0, [])), (16, (71, 0, 256, 0, [671, 672, 41, 673])), (19, (42, 8, 27, 0, [])), (22, (8, 0, 1, 0, [])), (23, (8, 0, 3, 0, [])), (24, (70, 0, 259, 0, [674, 675, 41, 676])), (27, (74, 0, 0, 0, []))]
-- 5: JB_commit
def o_5 : List (Nat × Op) := [(0, (10, 0, 0, 0, [])), (1, (6, 0, 1, 0, [])), (2, (67, 0, 55, 24, [1, 0, 1, 336, 338, 0, 40, 339])), (5, (16, 0, 2, 0, [])), (6, (10, 0, 2, 0, [])), (7, (56, 0, 147, 4, [6, 153])), (10, (44, 5, 15, 0, [])), (13, (0, (-1), 0, 0, [])), (14, (72, 0, 0, 0, [])), (15, (10, 0, 0, 0, [])), (16, (56, 0, 30, 1, [0, 279])), (19, (6, 0, 1, 0, [])), (20, (10, 0, 2, 0, [])), (21, (56, 0, 147, 4, [6, 153])), (24, (67, 0, 197, 38, [2, 1, 2, 715, 716, 717, 46, 718])), (27, (12, 0, 3, 0, [])), (28, (10, 0, 2, 0, [])), (29, (36, 0, 0, 0, [])), (30, (56, 0, 147, 4, [6, 153])), (33, (0, 1, 0, 0, [])), (34, (20, 0, 0, 0, [])), (35, (57, 0, 147, 4, [6, 153])), (38, (10, 0, 2, 0, [])), (39, (56, 0, 147, 4, [6, 153])), (42, (48, 20, 62, 0, [])), (45, (10, 0, 0, 0, [])), (46, (56, 0, 30, 1, [0, 279])), (49, (6, 0, 1, 0, [])), (50, (10, 0, 2, 0, [])), (51, (56, 0, 147, 4, [6, 153])), (54, (0, 1, 0, 0, [])), (55, (19, 0, 0, 0, [])), (56, (67, 0, 200, 39, [2, 1, 2, 727, 728, 729, 46, 730])), (59, (42, 8, 67, 0, [])), (62, (10, 0, 0, 0, [])), (63, (6, 0, 1, 0, [])), (64, (67, 0, 204, 32, [1, 0, 1, 733, 735, 14, 40, 736])), (67, (6, 0, 3, 0, [])), (68, (72, 0, 0, 0, []))]
-- 6: JB_endTuple
def o_6 : List (Nat × Op) := [(0, (0, 0, 0, 0, [])), (1, (12, 0, 2, 0, [])), (2, (10, 0, 1, 0, [])), (3, (67, 0, 331, 74, [0, 2, 0, 778, 593, 594, 47, 595])), (6, (43, 37, 43, 0, [])), (9, (10, 0, 0, 0, [])), (10, (56, 0, 20, 0, [0, 278])), (13, (10, 0, 1, 0, [])), (14, (56, 0, 250, 5, [2, 204])), (17, (60, 0, 0, 0, [])), (18, (16, 0, 3, 0, [])), (19, (10, 0, 0, 0, [])), (20, (10, 0, 3, 0, [])), (21, (10, 0, 1, 0, [])), (22, (56, 0, 334, 6, [2, 206])), (25, (67, 0, 207, 1, [2, 0, 2, 747, 749, 15, 40, 750])), (28, (12, 0, 2, 0, [])), (29, (10, 0, 3, 0, [])), (30, (56, 0, 135, 5, [6, 155])), (33, (0, 1, 0, 0, [])), (34, (50, 9, 43, 0, [])), (37, (10, 0, 0, 0, [])), (38, (10, 0, 3, 0, [])), (39, (0, 3, 0, 0, [])), (40, (67, 0, 143, 7, [2, 0, 2, 614, 616, 13, 40, 617])), (43, (10, 0, 1, 0, [])), (44, (0, 0, 0, 0, [])), (45, (57, 0, 222, 0, [2, 194])), (48, (6, 0, 2, 0, [])), (49, (73, 0, 0, 0, []))]
-- 7: JB_endWait
def o_7 : List (Nat × Op) := [(0, (10, 0, 1, 0, [])), (1, (6, 0, 2, 0, [])), (2, (57, 0, 135, 5, [6, 155])), (5, (10, 0, 0, 0, [])), (6, (56, 0, 37, 2, [0, 280])), (9, (10, 0, 1, 0, [])), (10, (56, 0, 265, 0, [6, 146])), (13, (67, 0, 315, 58, [1, 8, 1, 618, 619, 620, 48, 621])), (16, (76, 0, 0, 0, []))]
-- 8: JB_extend
def o_8 : List (Nat × Op) := [(0, (6, 0, 3, 0, [])), (1, (6, 0, 2, 0, [])), (2, (51, 5, 7, 0, [])), (5, (0, 1, 0, 0, [])), (6, (73, 0, 0, 0, [])), (7, (0, 0, 0, 0, [])), (8, (13, 0, 4, 0, [])), (10, (7, 0, 4, 0, [])), (12, (10, 0, 0, 0, [])), (13, (56, 0, 30, 1, [0, 279])), (16, (56, 0, 150, 1, [1, 229])), (19, (52, 128, 147, 0, [])), (22, (10, 0, 0, 0, [])), (23, (56, 0, 30, 1, [0, 279])), (26, (56, 0, 153, 0, [1, 227])), (29, (7, 0, 4, 0, [])), (31, (60, 0, 0, 0, [])), (32, (17, 0, 5, 0, [])), (34, (11, 0, 5, 0, [])), (36, (10, 0, 1, 0, [])), (37, (56, 0, 265, 0, [6, 146])), (40, (67, 0, 157, 73, [1, 2, 1, 588, 589, 590, 47, 591])), (43, (43, 98, 141, 0, [])), (46, (10, 0, 0, 0, [])), (47, (56, 0, 51, 6, [0, 284])), (50, (11, 0, 5, 0, [])), (52, (56, 0, 244, 1, [2, 197])), (55, (67, 0, 286, 51, [1, 5, 1, 596, 597, 598, 44, 599])), (58, (43, 6, 64, 0, [])), (61, (42, 80, 141, 0, [])), (64, (10, 0, 0, 0, [])), (65, (56, 0, 51, 6, [0, 284])), (68, (56, 0, 289, 1, [5, 113])), (71, (13, 0, 6, 0, [])), (73, (10, 0, 1, 0, [])), (74, (56, 0, 85, 2, [6, 150])), (77, (6, 0, 3, 0, [])), (78, (60, 0, 0, 0, [])), (79, (11, 0, 5, 0, [])), (81, (56, 0, 166, 7, [2, 208])), (84, (10, 0, 0, 0, [])), (85, (56, 0, 51, 6, [0, 284])), (88, (67, 0, 278, 64, [2, 4, 2, 554, 555, 556, 45, 557])), (91, (43, 41, 132, 0, [])), (94, (10, 0, 0, 0, [])), (95, (56, 0, 51, 6, [0, 284])), (98, (56, 0, 292, 0, [5, 111])), (101, (6, 0, 3, 0, [])), (102, (11, 0, 5, 0, [])), (104, (56, 0, 244, 1, [2, 197])), (107, (62, 0, 0, 0, [])), (108, (10, 0, 0, 0, [])), (109, (10, 0, 1, 0, [])), (110, (6, 0, 2, 0, [])), (111, (6, 0, 3, 0, [])), (112, (0, 1, 0, 0, [])), (113, (19, 0, 0, 0, [])), (114, (67, 0, 282, 8, [3, 0, 3, 584, 586, 11, 40, 587])), (117, (43, 5, 122, 0, [])), (120, (0, 1, 0, 0, [])), (121, (73, 0, 0, 0, [])), (122, (10, 0, 0, 0, [])), (123, (56, 0, 51, 6, [0, 284])), (126, (56, 0, 292, 0, [5, 111])), (129, (6, 0, 3, 0, [])), (130, (0, (-1), 0, 0, [])), (131, (62, 0, 0, 0, [])), (132, (10, 0, 0, 0, [])), (133, (56, 0, 51, 6, [0, 284])), (136, (7, 0, 6, 0, [])), (138, (57, 0, 289, 1, [5, 113])), (141, (18, 1, 4, 0, [])), (144, (42, (-134), 10, 0, [])), (147, (0, 0, 0, 0, [])), (148, (73, 0, 0, 0, []))]
-- 9: JB_field
def o_9 : List (Nat × Op) := [(0, (10, 0, 0, 0, [])), (1, (6, 0, 1, 0, [])), (2, (67, 0, 55, 24, [1, 0, 1, 336, 338, 0, 40, 339])), (5, (17, 0, 5, 0, [])), (7, (6, 0, 2, 0, [])), (8, (45, 8, 16, 0, [])), (11, (6, 0, 2, 0, [])), (12, (0, 2, 0, 0, [])), (13, (54, 11, 24, 0, [])), (16, (77, 0, 3, 0, [])), (24, (11, 0, 5, 0, [])), (26, (56, 0, 62, 1, [6, 148])), (29, (56, 0, 66, 0, [3, 87])), (32, (0, 4, 0, 0, [])), (33, (51, 11, 44, 0, [])), (36, (77, 0, 4, 0, [])), (44, (11, 0, 5, 0, [])), (46, (56, 0, 62, 1, [6, 148])), (49, (6, 0, 2, 0, [])), (50, (8, 0, 3, 0, [])), (51, (67, 0, 75, 43, [2, 3, 3, 453, 454, 455, 43, 456])), (54, (72, 0, 0, 0, []))]
-- 10: JB_find
def o_10 : List (Nat × Op) := [(0, (10, 0, 0, 0, [])), (1, (6, 0, 1, 0, [])), (2, (67, 0, 55, 24, [1, 0, 1, 336, 338, 0, 40, 339])), (5, (17, 0, 4, 0, [])), (7, (6, 0, 3, 0, [])), (8, (45, 17, 25, 0, [])), (11, (6, 0, 3, 0, [])), (12, (0, 3, 0, 0, [])), (13, (53, 12, 25, 0, [])), (16, (11, 0, 4, 0, [])), (18, (6, 0, 2, 0, [])), (19, (67, 0, 114, 68, [1, 6, 1, 634, 635, 636, 42, 637])), (22, (44, 11, 33, 0, [])), (25, (77, 0, 3, 0, [])), (33, (11, 0, 4, 0, [])), (35, (6, 0, 2, 0, [])), (36, (6, 0, 3, 0, [])), (37, (0, 1, 0, 0, [])), (38, (23, 0, 0, 0, [])), (39, (43, 7, 46, 0, [])), (42, (0, 1, 0, 0, [])), (43, (42, 4, 47, 0, [])), (46, (0, 0, 0, 0, [])), (47, (67, 0, 117, 67, [2, 6, 2, 638, 639, 640, 42, 641])), (50, (10, 0, 0, 0, [])), (51, (11, 0, 4, 0, [])), (53, (6, 0, 2, 0, [])), (54, (67, 0, 121, 27, [2, 0, 2, 580, 582, 10, 40, 583])), (57, (43, 19, 76, 0, [])), (60, (10, 0, 0, 0, [])), (61, (11, 0, 4, 0, [])), (63, (67, 0, 125, 16, [1, 0, 1, 600, 602, 12, 40, 603])), (66, (11, 0, 4, 0, [])), (68, (56, 0, 129, 3, [6, 152])), (71, (0, 0, 0, 0, [])), (72, (67, 0, 132, 54, [1, 5, 1, 609, 568, 569, 44, 570])), (75, (72, 0, 0, 0, [])), (76, (6, 0, 3, 0, [])), (77, (0, 2, 0, 0, [])), (78, (23, 0, 0, 0, [])), (79, (44, 5, 84, 0, [])), (82, (0, (-1), 0, 0, [])), (83, (72, 0, 0, 0, [])), (84, (11, 0, 4, 0, [])), (86, (0, 1, 0, 0, [])), (87, (57, 0, 135, 5, [6, 155])), (90, (10, 0, 0, 0, [])), (91, (56, 0, 37, 2, [0, 280])), (94, (6, 0, 1, 0, [])), (95, (67, 0, 138, 56, [1, 8, 1, 643, 644, 645, 48, 646])), (98, (0, 0, 0, 0, [])), (99, (72, 0, 0, 0, []))]
-- 11: JB_fitsAlone
def o_11 : List (Nat × Op) := [(0, (10, 0, 0, 0, [])), (1, (56, 0, 51, 6, [0, 284])), (4, (67, 0, 275, 49, [0, 5, 0, 550, 551, 552, 44, 553])), (7, (10, 0, 1, 0, [])), (8, (10, 0, 2, 0, [])), (9, (56, 0, 166, 7, [2, 208])), (12, (10, 0, 0, 0, [])), (13, (56, 0, 51, 6, [0, 284])), (16, (67, 0, 278, 64, [2, 4, 2, 554, 555, 556, 45, 557])), (19, (73, 0, 0, 0, []))]
-- 12: JB_fold
def o_12 : List (Nat × Op) := [(0, (10, 0, 0, 0, [])), (1, (6, 0, 1, 0, [])), (2, (67, 0, 55, 24, [1, 0, 1, 336, 338, 0, 40, 339])), (5, (17, 0, 4, 0, [])), (7, (11, 0, 4, 0, [])), (9, (0, 1, 0, 0, [])), (10, (67, 0, 114, 68, [1, 6, 1, 634, 635, 636, 42, 637])), (13, (43, 21, 34, 0, [])), (16, (6, 0, 2, 0, [])), (17, (45, 17, 34, 0, [])), (20, (6, 0, 2, 0, [])), (21, (0, 4, 0, 0, [])), (22, (52, 12, 34, 0, [])), (25, (6, 0, 3, 0, [])), (26, (45, 8, 34, 0, [])), (29, (6, 0, 3, 0, [])), (30, (0, 3, 0, 0, [])), (31, (54, 11, 42, 0, [])), (34, (77, 0, 3, 0, [])), (42, (3, 0, 0, 0, [])), (43, (15, 0, 5, 0, [])), (45, (0, 0, 0, 0, [])), (46, (13, 0, 7, 0, [])), (48, (0, 0, 0, 0, [])), (49, (13, 0, 8, 0, [])), (51, (7, 0, 8, 0, [])), (53, (10, 0, 0, 0, [])), (54, (56, 0, 30, 1, [0, 279])), (57, (56, 0, 150, 1, [1, 229])), (60, (52, 108, 168, 0, [])), (63, (10, 0, 0, 0, [])), (64, (56, 0, 30, 1, [0, 279])), (67, (56, 0, 153, 0, [1, 227])), (70, (7, 0, 8, 0, [])), (72, (60, 0, 0, 0, [])), (73, (17, 0, 9, 0, [])), (75, (11, 0, 9, 0, [])), (77, (6, 0, 1, 0, [])), (78, (67, 0, 157, 73, [1, 2, 1, 588, 589, 590, 47, 591])), (81, (43, 81, 162, 0, [])), (84, (10, 0, 0, 0, [])), (85, (11, 0, 4, 0, [])), (87, (56, 0, 85, 2, [6, 150])), (90, (0, 0, 0, 0, [])), (91, (60, 0, 0, 0, [])), (92, (11, 0, 9, 0, [])), (94, (67, 0, 162, 11, [2, 0, 2, 546, 548, 7, 40, 549])), (97, (44, 6, 103, 0, [])), (100, (42, 62, 162, 0, [])), (103, (6, 0, 3, 0, [])), (104, (44, 12, 116, 0, [])), (107, (9, 0, 5, 0, [])), (109, (3, 1, 1, 0, [])), (110, (27, 0, 0, 0, [])), (111, (15, 0, 5, 0, [])), (113, (42, 49, 162, 0, [])), (116, (11, 0, 9, 0, [])), (118, (56, 0, 166, 7, [2, 208])), (121, (6, 0, 2, 0, [])), (122, (67, 0, 169, 46, [1, 3, 1, 318, 319, 320, 43, 321])), (125, (44, 37, 162, 0, [])), (128, (11, 0, 9, 0, [])), (130, (56, 0, 166, 7, [2, 208])), (133, (6, 0, 2, 0, [])), (134, (67, 0, 172, 47, [1, 3, 1, 313, 314, 315, 43, 316])), (137, (15, 0, 10, 0, [])), (139, (7, 0, 7, 0, [])), (141, (43, 14, 155, 0, [])), (144, (6, 0, 3, 0, [])), (145, (9, 0, 5, 0, [])), (147, (9, 0, 10, 0, [])), (149, (68, 0, 176, 4, [3, 0, 5, 668, 669, 0, 40, 670])), (152, (42, 5, 157, 0, [])), (155, (9, 0, 10, 0, [])), (157, (15, 0, 5, 0, [])), (159, (0, 1, 0, 0, [])), (160, (13, 0, 7, 0, [])), (162, (18, 1, 8, 0, [])), (165, (42, (-114), 51, 0, [])), (168, (9, 0, 5, 0, [])), (170, (74, 0, 0, 0, []))]
-- 13: JB_forget
def o_13 : List (Nat × Op) := [(0, (10, 0, 0, 0, [])), (1, (6, 0, 1, 0, [])), (2, (67, 0, 55, 24, [1, 0, 1, 336, 338, 0, 40, 339])), (5, (16, 0, 3, 0, [])), (6, (6, 0, 2, 0, [])), (7, (0, (-1), 0, 0, [])), (8, (51, 8, 16, 0, [])), (11, (6, 0, 2, 0, [])), (12, (0, 3, 0, 0, [])), (13, (51, 11, 24, 0, [])), (16, (77, 0, 3, 0, [])), (24, (6, 0, 2, 0, [])), (25, (0, (-1), 0, 0, [])), (26, (50, 13, 39, 0, [])), (29, (10, 0, 3, 0, [])), (30, (56, 0, 62, 1, [6, 148])), (33, (67, 0, 93, 45, [0, 3, 0, 480, 481, 482, 43, 483])), (36, (42, 12, 48, 0, [])), (39, (10, 0, 3, 0, [])), (40, (56, 0, 85, 2, [6, 150])), (43, (6, 0, 2, 0, [])), (44, (60, 0, 0, 0, [])), (45, (67, 0, 97, 63, [0, 4, 0, 484, 485, 486, 45, 487])), (48, (72, 0, 0, 0, []))]
-- 14: JB_form
def o_14 : List (Nat × Op) := [(0, (10, 0, 0, 0, [])), (1, (6, 0, 1, 0, [])), (2, (67, 0, 55, 24, [1, 0, 1, 336, 338, 0, 40, 339])), (5, (17, 0, 8, 0, [])), (7, (6, 0, 2, 0, [])), (8, (45, 17, 25, 0, [])), (11, (6, 0, 2, 0, [])), (12, (0, 3, 0, 0, [])), (13, (52, 12, 25, 0, [])), (16, (6, 0, 3, 0, [])), (17, (9, 0, 4, 0, [])), (19, (68, 0, 79, 66, [2, 0, 3, 464, 465, 0, 45, 466])), (22, (44, 11, 33, 0, [])), (25, (77, 0, 3, 0, [])), (33, (11, 0, 8, 0, [])), (35, (56, 0, 85, 2, [6, 150])), (38, (6, 0, 2, 0, [])), (39, (60, 0, 0, 0, [])), (40, (17, 0, 9, 0, [])), (42, (11, 0, 9, 0, [])), (44, (56, 0, 89, 0, [4, 132])), (47, (0, 4, 0, 0, [])), (48, (51, 11, 59, 0, [])), (51, (77, 0, 4, 0, [])), (59, (11, 0, 9, 0, [])), (61, (6, 0, 3, 0, [])), (62, (9, 0, 4, 0, [])), (64, (9, 0, 6, 0, [])), (66, (67, 0, 90, 61, [3, 4, 5, 469, 470, 471, 45, 472])), (69, (72, 0, 0, 0, []))]
-- 15: JB_found
def o_15 : List (Nat × Op) := [(0, (10, 0, 0, 0, [])), (1, (6, 0, 1, 0, [])), (2, (67, 0, 140, 31, [1, 0, 1, 340, 342, 1, 40, 343])), (5, (56, 0, 129, 3, [6, 152])), (8, (16, 0, 3, 0, [])), (9, (6, 0, 2, 0, [])), (10, (45, 15, 25, 0, [])), (13, (6, 0, 2, 0, [])), (14, (0, 2, 0, 0, [])), (15, (53, 10, 25, 0, [])), (18, (10, 0, 3, 0, [])), (19, (6, 0, 2, 0, [])), (20, (67, 0, 132, 54, [1, 5, 1, 609, 568, 569, 44, 570])), (23, (33, 0, 0, 0, [])), (24, (74, 0, 0, 0, [])), (25, (6, 0, 2, 0, [])), (26, (0, 3, 0, 0, [])), (27, (51, 18, 45, 0, [])), (30, (6, 0, 2, 0, [])), (31, (1, 6, 0, 0, [])), (33, (53, 12, 45, 0, [])), (36, (10, 0, 3, 0, [])), (37, (6, 0, 2, 0, [])), (38, (0, 3, 0, 0, [])), (39, (20, 0, 0, 0, [])), (40, (67, 0, 236, 53, [1, 5, 1, 794, 795, 796, 44, 797])), (43, (33, 0, 0, 0, [])), (44, (74, 0, 0, 0, [])), (45, (6, 0, 2, 0, [])), (46, (1, 7, 0, 0, [])), (48, (51, 18, 66, 0, [])), (51, (6, 0, 2, 0, [])), (52, (1, 10, 0, 0, [])), (54, (53, 12, 66, 0, [])), (57, (10, 0, 3, 0, [])), (58, (6, 0, 2, 0, [])), (59, (1, 7, 0, 0, [])), (61, (20, 0, 0, 0, [])), (62, (67, 0, 239, 55, [1, 5, 1, 802, 803, 804, 44, 805])), (65, (74, 0, 0, 0, [])), (66, (4, (-1), 242, 312, [])), (69, (74, 0, 0, 0, []))]
-- 16: JB_grant
def o_16 : List (Nat × Op) := [(0, (10, 0, 1, 0, [])), (1, (56, 0, 129, 3, [6, 152])), (4, (10, 0, 0, 0, [])), (5, (56, 0, 51, 6, [0, 284])), (8, (67, 0, 296, 50, [1, 5, 1, 604, 605, 606, 44, 607])), (11, (10, 0, 1, 0, [])), (12, (56, 0, 299, 7, [6, 159])), (15, (44, 4, 19, 0, [])), (18, (76, 0, 0, 0, [])), (19, (0, 0, 0, 0, [])), (20, (12, 0, 2, 0, [])), (21, (6, 0, 2, 0, [])), (22, (10, 0, 1, 0, [])), (23, (56, 0, 302, 6, [6, 157])), (26, (52, 41, 67, 0, [])), (29, (10, 0, 0, 0, [])), (30, (56, 0, 30, 1, [0, 279])), (33, (10, 0, 0, 0, [])), (34, (56, 0, 51, 6, [0, 284])), (37, (6, 0, 2, 0, [])), (38, (67, 0, 132, 54, [1, 5, 1, 609, 568, 569, 44, 570])), (41, (67, 0, 213, 41, [1, 1, 1, 308, 309, 310, 46, 311])), (44, (16, 0, 3, 0, [])), (45, (10, 0, 3, 0, [])), (46, (40, 15, 61, 0, [])), (49, (10, 0, 3, 0, [])), (50, (10, 0, 1, 0, [])), (51, (56, 0, 265, 0, [6, 146])), (54, (10, 0, 1, 0, [])), (55, (56, 0, 147, 4, [6, 153])), (58, (67, 0, 305, 78, [2, 2, 2, 610, 611, 612, 47, 613])), (61, (18, 1, 2, 0, [])), (64, (42, (-43), 21, 0, [])), (67, (76, 0, 0, 0, []))]
-- 17: JB_isSpan
def o_17 : List (Nat × Op) := [(0, (6, 0, 0, 0, [])), (1, (45, 14, 15, 0, [])), (4, (6, 0, 0, 0, [])), (5, (2, 1000, 0, 0, [])), (8, (53, 7, 15, 0, [])), (11, (0, 1, 0, 0, [])), (12, (42, 4, 16, 0, [])), (15, (0, 0, 0, 0, [])), (16, (73, 0, 0, 0, []))]
-- 18: JB_leaseEnd
def o_18 : List (Nat × Op) := [(0, (6, 0, 1, 0, [])), (1, (44, 7, 8, 0, [])), (4, (0, 0, 0, 0, [])), (5, (42, 9, 14, 0, [])), (8, (10, 0, 0, 0, [])), (9, (56, 0, 219, 5, [0, 283])), (12, (6, 0, 1, 0, [])), (13, (19, 0, 0, 0, [])), (14, (72, 0, 0, 0, []))]
-- 19: JB_now
def o_19 : List (Nat × Op) := [(0, (10, 0, 0, 0, [])), (1, (56, 0, 219, 5, [0, 283])), (4, (72, 0, 0, 0, []))]
-- 20: JB_open
def o_20 : List (Nat × Op) := [(0, (10, 0, 0, 0, [])), (1, (6, 0, 1, 0, [])), (2, (67, 0, 55, 24, [1, 0, 1, 336, 338, 0, 40, 339])), (5, (16, 0, 2, 0, [])), (6, (10, 0, 2, 0, [])), (7, (56, 0, 147, 4, [6, 153])), (10, (0, 4, 0, 0, [])), (11, (51, 11, 22, 0, [])), (14, (77, 0, 4, 0, [])), (22, (10, 0, 2, 0, [])), (23, (36, 0, 0, 0, [])), (24, (56, 0, 147, 4, [6, 153])), (27, (0, 1, 0, 0, [])), (28, (19, 0, 0, 0, [])), (29, (57, 0, 147, 4, [6, 153])), (32, (10, 0, 2, 0, [])), (33, (56, 0, 147, 4, [6, 153])), (36, (72, 0, 0, 0, []))]
-- 21: JB_order
def o_21 : List (Nat × Op) := [(0, (10, 0, 0, 0, [])), (1, (6, 0, 1, 0, [])), (2, (67, 0, 55, 24, [1, 0, 1, 336, 338, 0, 40, 339])), (5, (16, 0, 2, 0, [])), (6, (10, 0, 2, 0, [])), (7, (0, 1, 0, 0, [])), (8, (67, 0, 114, 68, [1, 6, 1, 634, 635, 636, 42, 637])), (11, (44, 11, 22, 0, [])), (14, (77, 0, 3, 0, [])), (22, (10, 0, 0, 0, [])), (23, (56, 0, 180, 4, [0, 282])), (26, (1, 6, 0, 0, [])), (28, (51, 11, 39, 0, [])), (31, (77, 0, 4, 0, [])), (39, (10, 0, 0, 0, [])), (40, (56, 0, 43, 3, [0, 281])), (43, (10, 0, 0, 0, [])), (44, (56, 0, 180, 4, [0, 282])), (47, (60, 0, 0, 0, [])), (48, (56, 0, 183, 0, [7, 263])), (51, (10, 0, 2, 0, [])), (52, (56, 0, 85, 2, [6, 150])), (55, (0, 0, 0, 0, [])), (56, (60, 0, 0, 0, [])), (57, (67, 0, 187, 62, [1, 4, 1, 684, 685, 686, 45, 687])), (60, (10, 0, 0, 0, [])), (61, (36, 0, 0, 0, [])), (62, (56, 0, 180, 4, [0, 282])), (65, (0, 1, 0, 0, [])), (66, (19, 0, 0, 0, [])), (67, (57, 0, 180, 4, [0, 282])), (70, (10, 0, 0, 0, [])), (71, (56, 0, 180, 4, [0, 282])), (74, (0, 1, 0, 0, [])), (75, (20, 0, 0, 0, [])), (76, (72, 0, 0, 0, []))]
-- 22: JB_placeDraft
def o_22 : List (Nat × Op) := [(0, (10, 0, 0, 0, [])), (1, (56, 0, 30, 1, [0, 279])), (4, (10, 0, 1, 0, [])), (5, (56, 0, 62, 1, [6, 148])), (8, (6, 0, 2, 0, [])), (9, (67, 0, 261, 36, [2, 1, 2, 510, 511, 512, 46, 513])), (12, (16, 0, 3, 0, [])), (13, (10, 0, 1, 0, [])), (14, (56, 0, 147, 4, [6, 153])), (17, (48, 18, 35, 0, [])), (20, (10, 0, 3, 0, [])), (21, (10, 0, 1, 0, [])), (22, (56, 0, 265, 0, [6, 146])), (25, (10, 0, 1, 0, [])), (26, (56, 0, 147, 4, [6, 153])), (29, (67, 0, 268, 76, [2, 2, 2, 541, 534, 535, 47, 536])), (32, (42, 12, 44, 0, [])), (35, (10, 0, 0, 0, [])), (36, (10, 0, 3, 0, [])), (37, (67, 0, 271, 26, [1, 0, 1, 542, 544, 6, 40, 545])), (40, (10, 0, 0, 0, [])), (41, (67, 0, 210, 29, [0, 0, 0, 576, 578, 9, 40, 579])), (44, (10, 0, 3, 0, [])), (45, (56, 0, 244, 1, [2, 197])), (48, (72, 0, 0, 0, []))]
-- 23: JB_put
def o_23 : List (Nat × Op) := [(0, (10, 0, 0, 0, [])), (1, (6, 0, 1, 0, [])), (2, (67, 0, 55, 24, [1, 0, 1, 336, 338, 0, 40, 339])), (5, (16, 0, 3, 0, [])), (6, (10, 0, 3, 0, [])), (7, (56, 0, 62, 1, [6, 148])), (10, (56, 0, 66, 0, [3, 87])), (13, (43, 10, 23, 0, [])), (16, (6, 0, 2, 0, [])), (17, (68, 0, 98, 17, [1, 0, 1, 495, 496, 0, 40, 497])), (20, (44, 11, 31, 0, [])), (23, (77, 0, 3, 0, [])), (31, (10, 0, 0, 0, [])), (32, (56, 0, 30, 1, [0, 279])), (35, (67, 0, 102, 40, [0, 1, 0, 498, 499, 500, 46, 501])), (38, (43, 11, 49, 0, [])), (41, (77, 0, 4, 0, [])), (49, (10, 0, 0, 0, [])), (50, (10, 0, 3, 0, [])), (51, (10, 0, 0, 0, [])), (52, (6, 0, 2, 0, [])), (53, (67, 0, 106, 18, [1, 0, 1, 502, 504, 3, 40, 505])), (56, (67, 0, 110, 22, [2, 0, 2, 506, 508, 4, 40, 509])), (59, (72, 0, 0, 0, []))]
-- 24: JB_readySession
def o_24 : List (Nat × Op) := [(0, (10, 0, 0, 0, [])), (1, (6, 0, 1, 0, [])), (2, (67, 0, 140, 31, [1, 0, 1, 340, 342, 1, 40, 343])), (5, (16, 0, 2, 0, [])), (6, (10, 0, 2, 0, [])), (7, (56, 0, 135, 5, [6, 155])), (10, (0, 1, 0, 0, [])), (11, (50, 11, 22, 0, [])), (14, (77, 0, 2, 0, [])), (22, (10, 0, 2, 0, [])), (23, (75, 0, 0, 0, []))]
-- 25: JB_renew
def o_25 : List (Nat × Op) := [(0, (10, 0, 0, 0, [])), (1, (6, 0, 1, 0, [])), (2, (67, 0, 55, 24, [1, 0, 1, 336, 338, 0, 40, 339])), (5, (37, 0, 0, 0, [])), (6, (6, 0, 3, 0, [])), (7, (68, 0, 98, 17, [1, 0, 1, 495, 496, 0, 40, 497])), (10, (44, 11, 21, 0, [])), (13, (77, 0, 3, 0, [])), (21, (10, 0, 0, 0, [])), (22, (56, 0, 30, 1, [0, 279])), (25, (6, 0, 2, 0, [])), (26, (67, 0, 213, 41, [1, 1, 1, 308, 309, 310, 46, 311])), (29, (17, 0, 4, 0, [])), (31, (11, 0, 4, 0, [])), (33, (40, 12, 45, 0, [])), (36, (11, 0, 4, 0, [])), (38, (6, 0, 1, 0, [])), (39, (67, 0, 157, 73, [1, 2, 1, 588, 589, 590, 47, 591])), (42, (44, 5, 47, 0, [])), (45, (0, 0, 0, 0, [])), (46, (73, 0, 0, 0, [])), (47, (11, 0, 4, 0, [])), (49, (10, 0, 0, 0, [])), (50, (6, 0, 3, 0, [])), (51, (67, 0, 106, 18, [1, 0, 1, 502, 504, 3, 40, 505])), (54, (57, 0, 217, 2, [2, 199])), (57, (0, 1, 0, 0, [])), (58, (73, 0, 0, 0, []))]
-- 26: JB_report
def o_26 : List (Nat × Op) := [(0, (0, 0, 0, 0, [])), (1, (12, 0, 2, 0, [])), (2, (6, 0, 2, 0, [])), (3, (10, 0, 0, 0, [])), (4, (56, 0, 180, 4, [0, 282])), (7, (52, 39, 46, 0, [])), (10, (10, 0, 0, 0, [])), (11, (10, 0, 0, 0, [])), (12, (56, 0, 43, 3, [0, 281])), (15, (6, 0, 2, 0, [])), (16, (60, 0, 0, 0, [])), (17, (56, 0, 183, 0, [7, 263])), (20, (10, 0, 1, 0, [])), (21, (67, 0, 162, 11, [2, 0, 2, 546, 548, 7, 40, 549])), (24, (43, 16, 40, 0, [])), (27, (10, 0, 0, 0, [])), (28, (56, 0, 43, 3, [0, 281])), (31, (6, 0, 2, 0, [])), (32, (60, 0, 0, 0, [])), (33, (10, 0, 1, 0, [])), (34, (56, 0, 244, 1, [2, 197])), (37, (67, 0, 308, 59, [1, 7, 1, 572, 573, 574, 49, 575])), (40, (18, 1, 2, 0, [])), (43, (42, (-41), 2, 0, [])), (46, (76, 0, 0, 0, []))]
-- 27: JB_searchFor
def o_27 : List (Nat × Op) := [(0, (10, 0, 0, 0, [])), (1, (56, 0, 51, 6, [0, 284])), (4, (67, 0, 275, 49, [0, 5, 0, 550, 551, 552, 44, 553])), (7, (10, 0, 0, 0, [])), (8, (10, 0, 1, 0, [])), (9, (6, 0, 2, 0, [])), (10, (0, 0, 0, 0, [])), (11, (67, 0, 282, 8, [3, 0, 3, 584, 586, 11, 40, 587])), (14, (73, 0, 0, 0, []))]
-- 28: JB_seen
def o_28 : List (Nat × Op) := [(0, (10, 0, 0, 0, [])), (1, (6, 0, 1, 0, [])), (2, (67, 0, 140, 31, [1, 0, 1, 340, 342, 1, 40, 343])), (5, (37, 0, 0, 0, [])), (6, (0, 0, 0, 0, [])), (7, (12, 0, 3, 0, [])), (8, (0, 0, 0, 0, [])), (9, (13, 0, 4, 0, [])), (11, (7, 0, 4, 0, [])), (13, (10, 0, 0, 0, [])), (14, (56, 0, 30, 1, [0, 279])), (17, (56, 0, 150, 1, [1, 229])), (20, (52, 44, 64, 0, [])), (23, (10, 0, 0, 0, [])), (24, (56, 0, 30, 1, [0, 279])), (27, (56, 0, 153, 0, [1, 227])), (30, (7, 0, 4, 0, [])), (32, (60, 0, 0, 0, [])), (33, (17, 0, 5, 0, [])), (35, (11, 0, 5, 0, [])), (37, (6, 0, 1, 0, [])), (38, (67, 0, 157, 73, [1, 2, 1, 588, 589, 590, 47, 591])), (41, (43, 17, 58, 0, [])), (44, (6, 0, 3, 0, [])), (45, (6, 0, 2, 0, [])), (46, (50, 9, 55, 0, [])), (49, (11, 0, 5, 0, [])), (51, (56, 0, 244, 1, [2, 197])), (54, (72, 0, 0, 0, [])), (55, (18, 1, 3, 0, [])), (58, (18, 1, 4, 0, [])), (61, (42, (-50), 11, 0, [])), (64, (0, (-1), 0, 0, [])), (65, (72, 0, 0, 0, []))]
-- 29: JB_serveLine
def o_29 : List (Nat × Op) := [(0, (0, 0, 0, 0, [])), (1, (12, 0, 1, 0, [])), (2, (10, 0, 0, 0, [])), (3, (56, 0, 37, 2, [0, 280])), (6, (56, 0, 311, 1, [8, 247])), (9, (12, 0, 2, 0, [])), (10, (6, 0, 2, 0, [])), (11, (48, 53, 64, 0, [])), (14, (10, 0, 0, 0, [])), (15, (56, 0, 20, 0, [0, 278])), (18, (10, 0, 0, 0, [])), (19, (56, 0, 37, 2, [0, 280])), (22, (56, 0, 312, 0, [8, 245])), (25, (6, 0, 1, 0, [])), (26, (58, 0, 0, 0, [])), (27, (60, 0, 0, 0, [])), (28, (16, 0, 3, 0, [])), (29, (10, 0, 0, 0, [])), (30, (10, 0, 3, 0, [])), (31, (10, 0, 3, 0, [])), (32, (56, 0, 302, 6, [6, 157])), (35, (67, 0, 121, 27, [2, 0, 2, 580, 582, 10, 40, 583])), (38, (43, 17, 55, 0, [])), (41, (10, 0, 0, 0, [])), (42, (10, 0, 3, 0, [])), (43, (67, 0, 125, 16, [1, 0, 1, 600, 602, 12, 40, 603])), (46, (10, 0, 0, 0, [])), (47, (10, 0, 3, 0, [])), (48, (0, 2, 0, 0, [])), (49, (67, 0, 143, 7, [2, 0, 2, 614, 616, 13, 40, 617])), (52, (42, 6, 58, 0, [])), (55, (18, 1, 1, 0, [])), (58, (18, (-1), 2, 0, [])), (61, (42, (-51), 10, 0, [])), (64, (76, 0, 0, 0, []))]
-- 30: JB_session
def o_30 : List (Nat × Op) := [(0, (10, 0, 0, 0, [])), (1, (6, 0, 1, 0, [])), (2, (67, 0, 140, 31, [1, 0, 1, 340, 342, 1, 40, 343])), (5, (16, 0, 3, 0, [])), (6, (6, 0, 2, 0, [])), (7, (55, 80, 0, 87, [41, 48, 53, 58, 66, 66, 66, 78])), (48, (10, 0, 3, 0, [])), (49, (56, 0, 135, 5, [6, 155])), (52, (72, 0, 0, 0, [])), (53, (10, 0, 3, 0, [])), (54, (56, 0, 147, 4, [6, 153])), (57, (72, 0, 0, 0, [])), (58, (10, 0, 3, 0, [])), (59, (56, 0, 62, 1, [6, 148])), (62, (56, 0, 66, 0, [3, 87])), (65, (72, 0, 0, 0, [])), (66, (10, 0, 3, 0, [])), (67, (56, 0, 85, 2, [6, 150])), (70, (6, 0, 2, 0, [])), (71, (0, 3, 0, 0, [])), (72, (20, 0, 0, 0, [])), (73, (60, 0, 0, 0, [])), (74, (56, 0, 89, 0, [4, 132])), (77, (72, 0, 0, 0, [])), (78, (10, 0, 0, 0, [])), (79, (56, 0, 37, 2, [0, 280])), (82, (6, 0, 1, 0, [])), (83, (67, 0, 233, 57, [1, 8, 1, 786, 623, 624, 48, 625])), (86, (72, 0, 0, 0, [])), (87, (0, (-1), 0, 0, [])), (88, (72, 0, 0, 0, []))]
-- 31: JB_sessionAt
def o_31 : List (Nat × Op) := [(0, (6, 0, 1, 0, [])), (1, (45, 12, 13, 0, [])), (4, (6, 0, 1, 0, [])), (5, (10, 0, 0, 0, [])), (6, (56, 0, 20, 0, [0, 278])), (9, (66, 0, 0, 0, [])), (10, (51, 11, 21, 0, [])), (13, (77, 0, 1, 0, [])), (21, (10, 0, 0, 0, [])), (22, (56, 0, 20, 0, [0, 278])), (25, (6, 0, 1, 0, [])), (26, (60, 0, 0, 0, [])), (27, (75, 0, 0, 0, []))]
-- 32: JB_settle
def o_32 : List (Nat × Op) := [(0, (0, 0, 0, 0, [])), (1, (12, 0, 2, 0, [])), (2, (0, 0, 0, 0, [])), (3, (12, 0, 3, 0, [])), (4, (6, 0, 3, 0, [])), (5, (10, 0, 0, 0, [])), (6, (56, 0, 30, 1, [0, 279])), (9, (56, 0, 150, 1, [1, 229])), (12, (52, 62, 74, 0, [])), (15, (10, 0, 0, 0, [])), (16, (56, 0, 30, 1, [0, 279])), (19, (56, 0, 153, 0, [1, 227])), (22, (6, 0, 3, 0, [])), (23, (60, 0, 0, 0, [])), (24, (17, 0, 4, 0, [])), (26, (11, 0, 4, 0, [])), (28, (6, 0, 1, 0, [])), (29, (0, 1, 0, 0, [])), (30, (67, 0, 318, 75, [2, 2, 2, 737, 724, 725, 47, 726])), (33, (43, 12, 45, 0, [])), (36, (11, 0, 4, 0, [])), (38, (0, 0, 0, 0, [])), (39, (57, 0, 222, 0, [2, 194])), (42, (42, 26, 68, 0, [])), (45, (11, 0, 4, 0, [])), (47, (6, 0, 1, 0, [])), (48, (0, 1, 0, 0, [])), (49, (67, 0, 322, 72, [2, 2, 2, 738, 720, 721, 47, 722])), (52, (43, 16, 68, 0, [])), (55, (11, 0, 4, 0, [])), (57, (67, 0, 325, 77, [0, 2, 0, 739, 530, 531, 47, 532])), (60, (10, 0, 0, 0, [])), (61, (11, 0, 4, 0, [])), (63, (67, 0, 271, 26, [1, 0, 1, 542, 544, 6, 40, 545])), (66, (0, 1, 0, 0, [])), (67, (12, 0, 2, 0, [])), (68, (18, 1, 3, 0, [])), (71, (42, (-67), 4, 0, [])), (74, (6, 0, 2, 0, [])), (75, (43, 7, 82, 0, [])), (78, (10, 0, 0, 0, [])), (79, (67, 0, 210, 29, [0, 0, 0, 576, 578, 9, 40, 579])), (82, (76, 0, 0, 0, []))]
-- 33: JB_stop
def o_33 : List (Nat × Op) := [(0, (10, 0, 0, 0, [])), (1, (6, 0, 1, 0, [])), (2, (67, 0, 140, 31, [1, 0, 1, 340, 342, 1, 40, 343])), (5, (16, 0, 2, 0, [])), (6, (10, 0, 2, 0, [])), (7, (56, 0, 135, 5, [6, 155])), (10, (0, 1, 0, 0, [])), (11, (49, 5, 16, 0, [])), (14, (0, 0, 0, 0, [])), (15, (73, 0, 0, 0, [])), (16, (10, 0, 0, 0, [])), (17, (10, 0, 2, 0, [])), (18, (0, 0, 0, 0, [])), (19, (67, 0, 143, 7, [2, 0, 2, 614, 616, 13, 40, 617])), (22, (0, 1, 0, 0, [])), (23, (73, 0, 0, 0, []))]
-- 34: JB_swap
def o_34 : List (Nat × Op) := [(0, (10, 0, 0, 0, [])), (1, (6, 0, 1, 0, [])), (2, (67, 0, 55, 24, [1, 0, 1, 336, 338, 0, 40, 339])), (5, (16, 0, 2, 0, [])), (6, (10, 0, 2, 0, [])), (7, (56, 0, 62, 1, [6, 148])), (10, (56, 0, 66, 0, [3, 87])), (13, (43, 11, 24, 0, [])), (16, (10, 0, 2, 0, [])), (17, (0, 1, 0, 0, [])), (18, (67, 0, 114, 68, [1, 6, 1, 634, 635, 636, 42, 637])), (21, (44, 11, 32, 0, [])), (24, (77, 0, 3, 0, [])), (32, (10, 0, 0, 0, [])), (33, (10, 0, 2, 0, [])), (34, (0, 1, 0, 0, [])), (35, (67, 0, 121, 27, [2, 0, 2, 580, 582, 10, 40, 583])), (38, (12, 0, 3, 0, [])), (39, (6, 0, 3, 0, [])), (40, (43, 28, 68, 0, [])), (43, (10, 0, 2, 0, [])), (44, (56, 0, 147, 4, [6, 153])), (47, (48, 21, 68, 0, [])), (50, (10, 0, 0, 0, [])), (51, (56, 0, 30, 1, [0, 279])), (54, (67, 0, 102, 40, [0, 1, 0, 498, 499, 500, 46, 501])), (57, (43, 11, 68, 0, [])), (60, (77, 0, 4, 0, [])), (68, (10, 0, 2, 0, [])), (69, (0, 1, 0, 0, [])), (70, (0, 1, 0, 0, [])), (71, (67, 0, 117, 67, [2, 6, 2, 638, 639, 640, 42, 641])), (74, (6, 0, 3, 0, [])), (75, (44, 5, 80, 0, [])), (78, (0, (-1), 0, 0, [])), (79, (72, 0, 0, 0, [])), (80, (10, 0, 0, 0, [])), (81, (10, 0, 2, 0, [])), (82, (67, 0, 125, 16, [1, 0, 1, 600, 602, 12, 40, 603])), (85, (10, 0, 0, 0, [])), (86, (10, 0, 2, 0, [])), (87, (0, 0, 0, 0, [])), (88, (67, 0, 110, 22, [2, 0, 2, 506, 508, 4, 40, 509])), (91, (72, 0, 0, 0, []))]
-- 35: JB_tick
def o_35 : List (Nat × Op) := [(0, (6, 0, 1, 0, [])), (1, (68, 0, 98, 17, [1, 0, 1, 495, 496, 0, 40, 497])), (4, (44, 11, 15, 0, [])), (7, (77, 0, 3, 0, [])), (15, (10, 0, 0, 0, [])), (16, (36, 0, 0, 0, [])), (17, (56, 0, 219, 5, [0, 283])), (20, (6, 0, 1, 0, [])), (21, (19, 0, 0, 0, [])), (22, (57, 0, 219, 5, [0, 283])), (25, (0, 0, 0, 0, [])), (26, (12, 0, 2, 0, [])), (27, (0, 0, 0, 0, [])), (28, (12, 0, 3, 0, [])), (29, (0, 0, 0, 0, [])), (30, (13, 0, 4, 0, [])), (32, (7, 0, 4, 0, [])), (34, (10, 0, 0, 0, [])), (35, (56, 0, 30, 1, [0, 279])), (38, (56, 0, 150, 1, [1, 229])), (41, (52, 53, 94, 0, [])), (44, (10, 0, 0, 0, [])), (45, (56, 0, 30, 1, [0, 279])), (48, (56, 0, 153, 0, [1, 227])), (51, (7, 0, 4, 0, [])), (53, (60, 0, 0, 0, [])), (54, (17, 0, 5, 0, [])), (56, (11, 0, 5, 0, [])), (58, (56, 0, 222, 0, [2, 194])), (61, (43, 27, 88, 0, [])), (64, (11, 0, 5, 0, [])), (66, (10, 0, 0, 0, [])), (67, (56, 0, 219, 5, [0, 283])), (70, (67, 0, 226, 71, [1, 2, 1, 770, 771, 772, 47, 773])), (73, (43, 15, 88, 0, [])), (76, (6, 0, 3, 0, [])), (77, (10, 0, 0, 0, [])), (78, (11, 0, 5, 0, [])), (80, (67, 0, 229, 6, [1, 0, 1, 774, 776, 16, 40, 777])), (83, (24, 0, 0, 0, [])), (84, (12, 0, 3, 0, [])), (85, (18, 1, 2, 0, [])), (88, (18, 1, 4, 0, [])), (91, (42, (-59), 32, 0, [])), (94, (6, 0, 3, 0, [])), (95, (43, 7, 102, 0, [])), (98, (10, 0, 0, 0, [])), (99, (67, 0, 210, 29, [0, 0, 0, 576, 578, 9, 40, 579])), (102, (6, 0, 2, 0, [])), (103, (72, 0, 0, 0, []))]
-- 36: Board_add
def o_36 : List (Nat × Op) := [(0, (10, 0, 0, 0, [])), (1, (67, 0, 26, 37, [0, 1, 0, 514, 516, 5, 46, 517])), (4, (10, 0, 0, 0, [])), (5, (56, 0, 11, 0, [1, 226])), (8, (10, 0, 0, 0, [])), (9, (56, 0, 18, 1, [1, 228])), (12, (60, 0, 0, 0, [])), (13, (16, 0, 3, 0, [])), (14, (10, 0, 0, 0, [])), (15, (36, 0, 0, 0, [])), (16, (56, 0, 18, 1, [1, 228])), (19, (0, 1, 0, 0, [])), (20, (19, 0, 0, 0, [])), (21, (57, 0, 18, 1, [1, 228])), (24, (10, 0, 0, 0, [])), (25, (36, 0, 0, 0, [])), (26, (56, 0, 29, 2, [1, 230])), (29, (0, 1, 0, 0, [])), (30, (19, 0, 0, 0, [])), (31, (57, 0, 29, 2, [1, 230])), (34, (10, 0, 3, 0, [])), (35, (10, 0, 0, 0, [])), (36, (56, 0, 29, 2, [1, 230])), (39, (10, 0, 1, 0, [])), (40, (6, 0, 2, 0, [])), (41, (67, 0, 32, 69, [3, 2, 3, 518, 519, 520, 47, 521])), (44, (10, 0, 3, 0, [])), (45, (75, 0, 0, 0, []))]
-- 37: Board_closeGaps
def o_37 : List (Nat × Op) := [(0, (0, 0, 0, 0, [])), (1, (12, 0, 1, 0, [])), (2, (0, 0, 0, 0, [])), (3, (12, 0, 2, 0, [])), (4, (6, 0, 2, 0, [])), (5, (10, 0, 0, 0, [])), (6, (56, 0, 18, 1, [1, 228])), (9, (52, 45, 54, 0, [])), (12, (10, 0, 0, 0, [])), (13, (56, 0, 11, 0, [1, 226])), (16, (6, 0, 2, 0, [])), (17, (60, 0, 0, 0, [])), (18, (16, 0, 3, 0, [])), (19, (10, 0, 3, 0, [])), (20, (56, 0, 22, 0, [2, 193])), (23, (43, 25, 48, 0, [])), (26, (10, 0, 0, 0, [])), (27, (56, 0, 11, 0, [1, 226])), (30, (6, 0, 2, 0, [])), (31, (10, 0, 0, 0, [])), (32, (56, 0, 11, 0, [1, 226])), (35, (6, 0, 1, 0, [])), (36, (60, 0, 0, 0, [])), (37, (64, 0, 0, 0, [])), (38, (10, 0, 0, 0, [])), (39, (56, 0, 11, 0, [1, 226])), (42, (6, 0, 1, 0, [])), (43, (10, 0, 3, 0, [])), (44, (64, 0, 0, 0, [])), (45, (18, 1, 1, 0, [])), (48, (18, 1, 2, 0, [])), (51, (42, (-47), 4, 0, [])), (54, (10, 0, 0, 0, [])), (55, (6, 0, 1, 0, [])), (56, (57, 0, 18, 1, [1, 228])), (59, (76, 0, 0, 0, []))]
-- 38: Board_countInDeal
def o_38 : List (Nat × Op) := [(0, (0, 0, 0, 0, [])), (1, (12, 0, 3, 0, [])), (2, (0, 0, 0, 0, [])), (3, (13, 0, 4, 0, [])), (5, (7, 0, 4, 0, [])), (7, (10, 0, 0, 0, [])), (8, (56, 0, 18, 1, [1, 228])), (11, (52, 42, 53, 0, [])), (14, (10, 0, 0, 0, [])), (15, (56, 0, 11, 0, [1, 226])), (18, (7, 0, 4, 0, [])), (20, (60, 0, 0, 0, [])), (21, (6, 0, 1, 0, [])), (22, (6, 0, 2, 0, [])), (23, (67, 0, 39, 72, [2, 2, 2, 719, 720, 721, 47, 722])), (26, (44, 18, 44, 0, [])), (29, (10, 0, 0, 0, [])), (30, (56, 0, 11, 0, [1, 226])), (33, (7, 0, 4, 0, [])), (35, (60, 0, 0, 0, [])), (36, (6, 0, 1, 0, [])), (37, (6, 0, 2, 0, [])), (38, (67, 0, 43, 75, [2, 2, 2, 723, 724, 725, 47, 726])), (41, (43, 6, 47, 0, [])), (44, (18, 1, 3, 0, [])), (47, (18, 1, 4, 0, [])), (50, (42, (-45), 5, 0, [])), (53, (6, 0, 3, 0, [])), (54, (72, 0, 0, 0, []))]
-- 39: Board_handOver
def o_39 : List (Nat × Op) := [(0, (0, 0, 0, 0, [])), (1, (12, 0, 3, 0, [])), (2, (6, 0, 3, 0, [])), (3, (10, 0, 0, 0, [])), (4, (56, 0, 18, 1, [1, 228])), (7, (52, 55, 62, 0, [])), (10, (10, 0, 0, 0, [])), (11, (56, 0, 11, 0, [1, 226])), (14, (6, 0, 3, 0, [])), (15, (60, 0, 0, 0, [])), (16, (17, 0, 4, 0, [])), (18, (11, 0, 4, 0, [])), (20, (6, 0, 1, 0, [])), (21, (6, 0, 2, 0, [])), (22, (67, 0, 39, 72, [2, 2, 2, 719, 720, 721, 47, 722])), (25, (43, 12, 37, 0, [])), (28, (11, 0, 4, 0, [])), (30, (6, 0, 1, 0, [])), (31, (6, 0, 2, 0, [])), (32, (0, 1, 0, 0, [])), (33, (20, 0, 0, 0, [])), (34, (67, 0, 46, 76, [2, 2, 2, 731, 534, 535, 47, 536])), (37, (11, 0, 4, 0, [])), (39, (6, 0, 1, 0, [])), (40, (6, 0, 2, 0, [])), (41, (67, 0, 43, 75, [2, 2, 2, 723, 724, 725, 47, 726])), (44, (43, 12, 56, 0, [])), (47, (11, 0, 4, 0, [])), (49, (6, 0, 1, 0, [])), (50, (6, 0, 2, 0, [])), (51, (0, 1, 0, 0, [])), (52, (20, 0, 0, 0, [])), (53, (67, 0, 50, 78, [2, 2, 2, 732, 611, 612, 47, 613])), (56, (18, 1, 3, 0, [])), (59, (42, (-57), 2, 0, [])), (62, (76, 0, 0, 0, []))]
-- 40: Board_isFull
def o_40 : List (Nat × Op) := [(0, (0, 0, 0, 0, [])), (1, (12, 0, 1, 0, [])), (2, (0, 0, 0, 0, [])), (3, (12, 0, 2, 0, [])), (4, (6, 0, 2, 0, [])), (5, (10, 0, 0, 0, [])), (6, (56, 0, 18, 1, [1, 228])), (9, (52, 24, 33, 0, [])), (12, (10, 0, 0, 0, [])), (13, (56, 0, 11, 0, [1, 226])), (16, (6, 0, 2, 0, [])), (17, (60, 0, 0, 0, [])), (18, (56, 0, 22, 0, [2, 193])), (21, (43, 6, 27, 0, [])), (24, (18, 1, 1, 0, [])), (27, (18, 1, 2, 0, [])), (30, (42, (-26), 4, 0, [])), (33, (6, 0, 1, 0, [])), (34, (1, 20, 0, 0, [])), (36, (51, 7, 43, 0, [])), (39, (0, 1, 0, 0, [])), (40, (42, 4, 44, 0, [])), (43, (0, 0, 0, 0, [])), (44, (73, 0, 0, 0, []))]
-- 41: Board_lookUp
def o_41 : List (Nat × Op) := [(0, (0, 0, 0, 0, [])), (1, (12, 0, 2, 0, [])), (2, (6, 0, 2, 0, [])), (3, (10, 0, 0, 0, [])), (4, (56, 0, 18, 1, [1, 228])), (7, (52, 41, 48, 0, [])), (10, (10, 0, 0, 0, [])), (11, (56, 0, 11, 0, [1, 226])), (14, (6, 0, 2, 0, [])), (15, (60, 0, 0, 0, [])), (16, (56, 0, 22, 0, [2, 193])), (19, (43, 23, 42, 0, [])), (22, (10, 0, 0, 0, [])), (23, (56, 0, 11, 0, [1, 226])), (26, (6, 0, 2, 0, [])), (27, (60, 0, 0, 0, [])), (28, (56, 0, 36, 1, [2, 196])), (31, (6, 0, 1, 0, [])), (32, (50, 10, 42, 0, [])), (35, (10, 0, 0, 0, [])), (36, (56, 0, 11, 0, [1, 226])), (39, (6, 0, 2, 0, [])), (40, (60, 0, 0, 0, [])), (41, (75, 0, 0, 0, [])), (42, (18, 1, 2, 0, [])), (45, (42, (-43), 2, 0, [])), (48, (39, 0, 0, 0, [])), (49, (75, 0, 0, 0, []))]
-- 42: Board_undo
def o_42 : List (Nat × Op) := [(0, (0, 0, 0, 0, [])), (1, (12, 0, 3, 0, [])), (2, (0, 0, 0, 0, [])), (3, (13, 0, 4, 0, [])), (5, (7, 0, 4, 0, [])), (7, (10, 0, 0, 0, [])), (8, (56, 0, 18, 1, [1, 228])), (11, (52, 54, 65, 0, [])), (14, (10, 0, 0, 0, [])), (15, (56, 0, 11, 0, [1, 226])), (18, (7, 0, 4, 0, [])), (20, (60, 0, 0, 0, [])), (21, (17, 0, 5, 0, [])), (23, (11, 0, 5, 0, [])), (25, (6, 0, 1, 0, [])), (26, (6, 0, 2, 0, [])), (27, (67, 0, 39, 72, [2, 2, 2, 719, 720, 721, 47, 722])), (30, (43, 12, 42, 0, [])), (33, (11, 0, 5, 0, [])), (35, (0, 0, 0, 0, [])), (36, (57, 0, 22, 0, [2, 193])), (39, (42, 20, 59, 0, [])), (42, (11, 0, 5, 0, [])), (44, (6, 0, 1, 0, [])), (45, (6, 0, 2, 0, [])), (46, (67, 0, 43, 75, [2, 2, 2, 723, 724, 725, 47, 726])), (49, (43, 10, 59, 0, [])), (52, (11, 0, 5, 0, [])), (54, (67, 0, 53, 70, [0, 2, 0, 755, 538, 539, 47, 540])), (57, (0, 1, 0, 0, [])), (58, (12, 0, 3, 0, [])), (59, (18, 1, 4, 0, [])), (62, (42, (-57), 5, 0, [])), (65, (6, 0, 3, 0, [])), (66, (73, 0, 0, 0, []))]
-- 43: Fields_append
def o_43 : List (Nat × Op) := [(0, (10, 0, 0, 0, [])), (1, (56, 0, 9, 1, [3, 89])), (4, (10, 0, 0, 0, [])), (5, (56, 0, 19, 0, [3, 86])), (8, (6, 0, 1, 0, [])), (9, (62, 0, 0, 0, [])), (10, (10, 0, 0, 0, [])), (11, (56, 0, 15, 2, [3, 91])), (14, (10, 0, 0, 0, [])), (15, (56, 0, 19, 0, [3, 86])), (18, (8, 0, 2, 0, [])), (19, (63, 0, 0, 0, [])), (20, (10, 0, 0, 0, [])), (21, (36, 0, 0, 0, [])), (22, (56, 0, 19, 0, [3, 86])), (25, (0, 1, 0, 0, [])), (26, (19, 0, 0, 0, [])), (27, (57, 0, 19, 0, [3, 86])), (30, (10, 0, 0, 0, [])), (31, (56, 0, 19, 0, [3, 86])), (34, (72, 0, 0, 0, []))]
-- 44: Fields_copyFrom
def o_44 : List (Nat × Op) := [(0, (10, 0, 0, 0, [])), (1, (10, 0, 1, 0, [])), (2, (56, 0, 19, 0, [3, 86])), (5, (57, 0, 19, 0, [3, 86])), (8, (10, 0, 1, 0, [])), (9, (56, 0, 9, 1, [3, 89])), (12, (0, 0, 0, 0, [])), (13, (10, 0, 0, 0, [])), (14, (56, 0, 9, 1, [3, 89])), (17, (0, 0, 0, 0, [])), (18, (0, 4, 0, 0, [])), (19, (69, 0, 23, 0, [526, 528, 527, 58])), (22, (10, 0, 1, 0, [])), (23, (56, 0, 15, 2, [3, 91])), (26, (0, 0, 0, 0, [])), (27, (10, 0, 0, 0, [])), (28, (56, 0, 15, 2, [3, 91])), (31, (0, 0, 0, 0, [])), (32, (0, 4, 0, 0, [])), (33, (69, 0, 23, 0, [526, 528, 527, 58])), (36, (76, 0, 0, 0, []))]
-- 45: Fields_empty
def o_45 : List (Nat × Op) := [(0, (10, 0, 0, 0, [])), (1, (56, 0, 19, 0, [3, 86])), (4, (12, 0, 1, 0, [])), (5, (10, 0, 0, 0, [])), (6, (0, 0, 0, 0, [])), (7, (57, 0, 19, 0, [3, 86])), (10, (6, 0, 1, 0, [])), (11, (72, 0, 0, 0, []))]
-- 46: Fields_kindAt
def o_46 : List (Nat × Op) := [(0, (6, 0, 1, 0, [])), (1, (45, 20, 21, 0, [])), (4, (6, 0, 1, 0, [])), (5, (10, 0, 0, 0, [])), (6, (56, 0, 19, 0, [3, 86])), (9, (52, 12, 21, 0, [])), (12, (10, 0, 0, 0, [])), (13, (56, 0, 9, 1, [3, 89])), (16, (6, 0, 1, 0, [])), (17, (58, 0, 0, 0, [])), (18, (42, 4, 22, 0, [])), (21, (0, (-1), 0, 0, [])), (22, (72, 0, 0, 0, []))]
-- 47: Fields_valueAt
def o_47 : List (Nat × Op) := [(0, (6, 0, 1, 0, [])), (1, (45, 20, 21, 0, [])), (4, (6, 0, 1, 0, [])), (5, (10, 0, 0, 0, [])), (6, (56, 0, 19, 0, [3, 86])), (9, (52, 12, 21, 0, [])), (12, (10, 0, 0, 0, [])), (13, (56, 0, 15, 2, [3, 91])), (16, (6, 0, 1, 0, [])), (17, (59, 0, 0, 0, [])), (18, (42, 6, 24, 0, [])), (21, (4, (-1), 29, 317, [])), (24, (74, 0, 0, 0, []))]
-- 48: Finding_bindOrCompare
def o_48 : List (Nat × Op) := [(0, (6, 0, 1, 0, [])), (1, (45, 8, 9, 0, [])), (4, (6, 0, 1, 0, [])), (5, (0, 4, 0, 0, [])), (6, (51, 5, 11, 0, [])), (9, (0, 0, 0, 0, [])), (10, (73, 0, 0, 0, [])), (11, (0, 1, 0, 0, [])), (12, (6, 0, 1, 0, [])), (13, (25, 0, 0, 0, [])), (14, (13, 0, 5, 0, [])), (16, (10, 0, 0, 0, [])), (17, (56, 0, 22, 1, [5, 112])), (20, (7, 0, 5, 0, [])), (22, (23, 0, 0, 0, [])), (23, (44, 28, 51, 0, [])), (26, (10, 0, 0, 0, [])), (27, (36, 0, 0, 0, [])), (28, (56, 0, 22, 1, [5, 112])), (31, (7, 0, 5, 0, [])), (33, (24, 0, 0, 0, [])), (34, (57, 0, 22, 1, [5, 112])), (37, (10, 0, 0, 0, [])), (38, (56, 0, 15, 2, [5, 114])), (41, (6, 0, 1, 0, [])), (42, (6, 0, 2, 0, [])), (43, (62, 0, 0, 0, [])), (44, (10, 0, 0, 0, [])), (45, (56, 0, 18, 3, [5, 115])), (48, (6, 0, 1, 0, [])), (49, (8, 0, 3, 0, [])), (50, (63, 0, 0, 0, [])), (51, (10, 0, 0, 0, [])), (52, (56, 0, 15, 2, [5, 114])), (55, (6, 0, 1, 0, [])), (56, (58, 0, 0, 0, [])), (57, (6, 0, 2, 0, [])), (58, (50, 18, 76, 0, [])), (61, (10, 0, 0, 0, [])), (62, (56, 0, 18, 3, [5, 115])), (65, (6, 0, 1, 0, [])), (66, (59, 0, 0, 0, [])), (67, (8, 0, 3, 0, [])), (68, (35, 0, 0, 0, [])), (69, (44, 7, 76, 0, [])), (72, (0, 1, 0, 0, [])), (73, (42, 4, 77, 0, [])), (76, (0, 0, 0, 0, [])), (77, (73, 0, 0, 0, []))]
-- 49: Finding_clear
def o_49 : List (Nat × Op) := [(0, (0, 0, 0, 0, [])), (1, (12, 0, 1, 0, [])), (2, (6, 0, 1, 0, [])), (3, (0, 3, 0, 0, [])), (4, (52, 16, 20, 0, [])), (7, (10, 0, 0, 0, [])), (8, (56, 0, 9, 0, [5, 110])), (11, (6, 0, 1, 0, [])), (12, (0, (-1), 0, 0, [])), (13, (62, 0, 0, 0, [])), (14, (18, 1, 1, 0, [])), (17, (42, (-15), 2, 0, [])), (20, (10, 0, 0, 0, [])), (21, (0, 0, 0, 0, [])), (22, (57, 0, 22, 1, [5, 112])), (25, (76, 0, 0, 0, []))]
-- 50: Finding_copyFrom
def o_50 : List (Nat × Op) := [(0, (10, 0, 1, 0, [])), (1, (56, 0, 9, 0, [5, 110])), (4, (0, 0, 0, 0, [])), (5, (10, 0, 0, 0, [])), (6, (56, 0, 9, 0, [5, 110])), (9, (0, 0, 0, 0, [])), (10, (0, 3, 0, 0, [])), (11, (69, 0, 26, 0, [608, 528, 527, 58])), (14, (10, 0, 0, 0, [])), (15, (10, 0, 1, 0, [])), (16, (56, 0, 22, 1, [5, 112])), (19, (57, 0, 22, 1, [5, 112])), (22, (10, 0, 1, 0, [])), (23, (56, 0, 15, 2, [5, 114])), (26, (0, 0, 0, 0, [])), (27, (10, 0, 0, 0, [])), (28, (56, 0, 15, 2, [5, 114])), (31, (0, 0, 0, 0, [])), (32, (0, 4, 0, 0, [])), (33, (69, 0, 26, 0, [608, 528, 527, 58])), (36, (10, 0, 1, 0, [])), (37, (56, 0, 18, 3, [5, 115])), (40, (0, 0, 0, 0, [])), (41, (10, 0, 0, 0, [])), (42, (56, 0, 18, 3, [5, 115])), (45, (0, 0, 0, 0, [])), (46, (0, 4, 0, 0, [])), (47, (69, 0, 26, 0, [608, 528, 527, 58])), (50, (76, 0, 0, 0, []))]
-- 51: Finding_hasNumber
def o_51 : List (Nat × Op) := [(0, (0, 0, 0, 0, [])), (1, (12, 0, 2, 0, [])), (2, (6, 0, 2, 0, [])), (3, (0, 3, 0, 0, [])), (4, (52, 21, 25, 0, [])), (7, (10, 0, 0, 0, [])), (8, (56, 0, 9, 0, [5, 110])), (11, (6, 0, 2, 0, [])), (12, (58, 0, 0, 0, [])), (13, (6, 0, 1, 0, [])), (14, (50, 5, 19, 0, [])), (17, (0, 1, 0, 0, [])), (18, (73, 0, 0, 0, [])), (19, (18, 1, 2, 0, [])), (22, (42, (-20), 2, 0, [])), (25, (0, 0, 0, 0, [])), (26, (73, 0, 0, 0, []))]
-- 52: Finding_isBound
def o_52 : List (Nat × Op) := [(0, (6, 0, 1, 0, [])), (1, (45, 24, 25, 0, [])), (4, (6, 0, 1, 0, [])), (5, (0, 4, 0, 0, [])), (6, (52, 19, 25, 0, [])), (9, (10, 0, 0, 0, [])), (10, (56, 0, 22, 1, [5, 112])), (13, (6, 0, 1, 0, [])), (14, (26, 0, 0, 0, [])), (15, (0, 1, 0, 0, [])), (16, (23, 0, 0, 0, [])), (17, (0, 1, 0, 0, [])), (18, (50, 7, 25, 0, [])), (21, (0, 1, 0, 0, [])), (22, (42, 4, 26, 0, [])), (25, (0, 0, 0, 0, [])), (26, (73, 0, 0, 0, []))]
-- 53: Finding_kindOf
def o_53 : List (Nat × Op) := [(0, (10, 0, 0, 0, [])), (1, (6, 0, 1, 0, [])), (2, (67, 0, 32, 52, [1, 5, 1, 798, 799, 800, 44, 801])), (5, (43, 12, 17, 0, [])), (8, (10, 0, 0, 0, [])), (9, (56, 0, 15, 2, [5, 114])), (12, (6, 0, 1, 0, [])), (13, (58, 0, 0, 0, [])), (14, (42, 4, 18, 0, [])), (17, (0, (-1), 0, 0, [])), (18, (72, 0, 0, 0, []))]
-- 54: Finding_numberFor
def o_54 : List (Nat × Op) := [(0, (6, 0, 1, 0, [])), (1, (45, 17, 18, 0, [])), (4, (6, 0, 1, 0, [])), (5, (0, 3, 0, 0, [])), (6, (52, 12, 18, 0, [])), (9, (10, 0, 0, 0, [])), (10, (56, 0, 9, 0, [5, 110])), (13, (6, 0, 1, 0, [])), (14, (58, 0, 0, 0, [])), (15, (42, 4, 19, 0, [])), (18, (0, (-1), 0, 0, [])), (19, (72, 0, 0, 0, []))]
-- 55: Finding_valueOf
def o_55 : List (Nat × Op) := [(0, (10, 0, 0, 0, [])), (1, (6, 0, 1, 0, [])), (2, (67, 0, 32, 52, [1, 5, 1, 798, 799, 800, 44, 801])), (5, (43, 12, 17, 0, [])), (8, (10, 0, 0, 0, [])), (9, (56, 0, 18, 3, [5, 115])), (12, (6, 0, 1, 0, [])), (13, (59, 0, 0, 0, [])), (14, (42, 4, 18, 0, [])), (17, (3, 0, 0, 0, [])), (18, (74, 0, 0, 0, []))]
-- 56: Line_append
def o_56 : List (Nat × Op) := [(0, (10, 0, 0, 0, [])), (1, (56, 0, 9, 0, [8, 244])), (4, (10, 0, 0, 0, [])), (5, (56, 0, 15, 1, [8, 246])), (8, (6, 0, 1, 0, [])), (9, (62, 0, 0, 0, [])), (10, (10, 0, 0, 0, [])), (11, (36, 0, 0, 0, [])), (12, (56, 0, 15, 1, [8, 246])), (15, (0, 1, 0, 0, [])), (16, (19, 0, 0, 0, [])), (17, (57, 0, 15, 1, [8, 246])), (20, (76, 0, 0, 0, []))]
-- 57: Line_placeOf
def o_57 : List (Nat × Op) := [(0, (0, 0, 0, 0, [])), (1, (12, 0, 2, 0, [])), (2, (6, 0, 2, 0, [])), (3, (10, 0, 0, 0, [])), (4, (56, 0, 15, 1, [8, 246])), (7, (52, 21, 28, 0, [])), (10, (10, 0, 0, 0, [])), (11, (56, 0, 9, 0, [8, 244])), (14, (6, 0, 2, 0, [])), (15, (58, 0, 0, 0, [])), (16, (6, 0, 1, 0, [])), (17, (50, 5, 22, 0, [])), (20, (6, 0, 2, 0, [])), (21, (72, 0, 0, 0, [])), (22, (18, 1, 2, 0, [])), (25, (42, (-23), 2, 0, [])), (28, (0, (-1), 0, 0, [])), (29, (72, 0, 0, 0, []))]
-- 58: Line_remove
def o_58 : List (Nat × Op) := [(0, (10, 0, 0, 0, [])), (1, (6, 0, 1, 0, [])), (2, (67, 0, 19, 57, [1, 8, 1, 622, 623, 624, 48, 625])), (5, (12, 0, 2, 0, [])), (6, (6, 0, 2, 0, [])), (7, (0, (-1), 0, 0, [])), (8, (50, 4, 12, 0, [])), (11, (76, 0, 0, 0, [])), (12, (10, 0, 0, 0, [])), (13, (36, 0, 0, 0, [])), (14, (56, 0, 15, 1, [8, 246])), (17, (0, 1, 0, 0, [])), (18, (20, 0, 0, 0, [])), (19, (57, 0, 15, 1, [8, 246])), (22, (10, 0, 0, 0, [])), (23, (56, 0, 9, 0, [8, 244])), (26, (6, 0, 2, 0, [])), (27, (0, 1, 0, 0, [])), (28, (19, 0, 0, 0, [])), (29, (10, 0, 0, 0, [])), (30, (56, 0, 9, 0, [8, 244])), (33, (6, 0, 2, 0, [])), (34, (10, 0, 0, 0, [])), (35, (56, 0, 15, 1, [8, 246])), (38, (6, 0, 2, 0, [])), (39, (20, 0, 0, 0, [])), (40, (69, 0, 23, 0, [626, 528, 527, 58])), (43, (76, 0, 0, 0, []))]
-- 59: Order_addReport
def o_59 : List (Nat × Op) := [(0, (10, 0, 0, 0, [])), (1, (56, 0, 22, 2, [7, 265])), (4, (0, 5, 0, 0, [])), (5, (51, 8, 13, 0, [])), (8, (10, 0, 0, 0, [])), (9, (0, 1, 0, 0, [])), (10, (57, 0, 26, 3, [7, 266])), (13, (10, 0, 0, 0, [])), (14, (56, 0, 26, 3, [7, 266])), (17, (44, 23, 40, 0, [])), (20, (10, 0, 0, 0, [])), (21, (56, 0, 18, 1, [7, 264])), (24, (10, 0, 0, 0, [])), (25, (56, 0, 22, 2, [7, 265])), (28, (6, 0, 1, 0, [])), (29, (62, 0, 0, 0, [])), (30, (10, 0, 0, 0, [])), (31, (36, 0, 0, 0, [])), (32, (56, 0, 22, 2, [7, 265])), (35, (0, 1, 0, 0, [])), (36, (19, 0, 0, 0, [])), (37, (57, 0, 22, 2, [7, 265])), (40, (76, 0, 0, 0, []))]
-- 60: Order_takeOldest
def o_60 : List (Nat × Op) := [(0, (10, 0, 0, 0, [])), (1, (56, 0, 22, 2, [7, 265])), (4, (44, 17, 21, 0, [])), (7, (10, 0, 0, 0, [])), (8, (56, 0, 26, 3, [7, 266])), (11, (43, 8, 19, 0, [])), (14, (1, (-2), 0, 0, [])), (16, (42, 4, 20, 0, [])), (19, (0, (-1), 0, 0, [])), (20, (72, 0, 0, 0, [])), (21, (10, 0, 0, 0, [])), (22, (56, 0, 18, 1, [7, 264])), (25, (0, 0, 0, 0, [])), (26, (58, 0, 0, 0, [])), (27, (12, 0, 1, 0, [])), (28, (10, 0, 0, 0, [])), (29, (36, 0, 0, 0, [])), (30, (56, 0, 22, 2, [7, 265])), (33, (0, 1, 0, 0, [])), (34, (20, 0, 0, 0, [])), (35, (57, 0, 22, 2, [7, 265])), (38, (10, 0, 0, 0, [])), (39, (56, 0, 18, 1, [7, 264])), (42, (0, 1, 0, 0, [])), (43, (10, 0, 0, 0, [])), (44, (56, 0, 18, 1, [7, 264])), (47, (0, 0, 0, 0, [])), (48, (10, 0, 0, 0, [])), (49, (56, 0, 22, 2, [7, 265])), (52, (69, 0, 30, 0, [700, 528, 527, 58])), (55, (6, 0, 1, 0, [])), (56, (72, 0, 0, 0, []))]
-- 61: Pattern_append
def o_61 : List (Nat × Op) := [(0, (10, 0, 0, 0, [])), (1, (56, 0, 9, 1, [4, 133])), (4, (10, 0, 0, 0, [])), (5, (56, 0, 26, 0, [4, 131])), (8, (6, 0, 1, 0, [])), (9, (62, 0, 0, 0, [])), (10, (10, 0, 0, 0, [])), (11, (56, 0, 15, 2, [4, 134])), (14, (10, 0, 0, 0, [])), (15, (56, 0, 26, 0, [4, 131])), (18, (8, 0, 2, 0, [])), (19, (63, 0, 0, 0, [])), (20, (10, 0, 0, 0, [])), (21, (56, 0, 19, 3, [4, 135])), (24, (10, 0, 0, 0, [])), (25, (56, 0, 26, 0, [4, 131])), (28, (9, 0, 4, 0, [])), (30, (63, 0, 0, 0, [])), (31, (10, 0, 0, 0, [])), (32, (36, 0, 0, 0, [])), (33, (56, 0, 26, 0, [4, 131])), (36, (0, 1, 0, 0, [])), (37, (19, 0, 0, 0, [])), (38, (57, 0, 26, 0, [4, 131])), (41, (10, 0, 0, 0, [])), (42, (56, 0, 26, 0, [4, 131])), (45, (72, 0, 0, 0, []))]
-- 62: Pattern_copyFrom
def o_62 : List (Nat × Op) := [(0, (10, 0, 0, 0, [])), (1, (10, 0, 1, 0, [])), (2, (56, 0, 26, 0, [4, 131])), (5, (57, 0, 26, 0, [4, 131])), (8, (10, 0, 1, 0, [])), (9, (56, 0, 9, 1, [4, 133])), (12, (0, 0, 0, 0, [])), (13, (10, 0, 0, 0, [])), (14, (56, 0, 9, 1, [4, 133])), (17, (0, 0, 0, 0, [])), (18, (0, 4, 0, 0, [])), (19, (69, 0, 30, 0, [688, 528, 527, 58])), (22, (10, 0, 1, 0, [])), (23, (56, 0, 15, 2, [4, 134])), (26, (0, 0, 0, 0, [])), (27, (10, 0, 0, 0, [])), (28, (56, 0, 15, 2, [4, 134])), (31, (0, 0, 0, 0, [])), (32, (0, 4, 0, 0, [])), (33, (69, 0, 30, 0, [688, 528, 527, 58])), (36, (10, 0, 1, 0, [])), (37, (56, 0, 19, 3, [4, 135])), (40, (0, 0, 0, 0, [])), (41, (10, 0, 0, 0, [])), (42, (56, 0, 19, 3, [4, 135])), (45, (0, 0, 0, 0, [])), (46, (0, 4, 0, 0, [])), (47, (69, 0, 30, 0, [688, 528, 527, 58])), (50, (76, 0, 0, 0, []))]
-- 63: Pattern_empty
def o_63 : List (Nat × Op) := [(0, (10, 0, 0, 0, [])), (1, (56, 0, 26, 0, [4, 131])), (4, (12, 0, 1, 0, [])), (5, (10, 0, 0, 0, [])), (6, (0, 0, 0, 0, [])), (7, (57, 0, 26, 0, [4, 131])), (10, (6, 0, 1, 0, [])), (11, (72, 0, 0, 0, []))]
-- 64: Pattern_fits
def o_64 : List (Nat × Op) := [(0, (10, 0, 1, 0, [])), (1, (56, 0, 36, 0, [3, 88])), (4, (10, 0, 0, 0, [])), (5, (56, 0, 26, 0, [4, 131])), (8, (49, 5, 13, 0, [])), (11, (0, 0, 0, 0, [])), (12, (73, 0, 0, 0, [])), (13, (0, 0, 0, 0, [])), (14, (12, 0, 3, 0, [])), (15, (6, 0, 3, 0, [])), (16, (10, 0, 0, 0, [])), (17, (56, 0, 26, 0, [4, 131])), (20, (52, 32, 52, 0, [])), (23, (10, 0, 0, 0, [])), (24, (6, 0, 3, 0, [])), (25, (10, 0, 1, 0, [])), (26, (56, 0, 39, 1, [3, 90])), (29, (6, 0, 3, 0, [])), (30, (58, 0, 0, 0, [])), (31, (10, 0, 1, 0, [])), (32, (56, 0, 42, 2, [3, 92])), (35, (6, 0, 3, 0, [])), (36, (59, 0, 0, 0, [])), (37, (10, 0, 2, 0, [])), (38, (67, 0, 45, 65, [4, 4, 5, 558, 560, 8, 45, 561])), (41, (44, 5, 46, 0, [])), (44, (0, 0, 0, 0, [])), (45, (73, 0, 0, 0, [])), (46, (18, 1, 3, 0, [])), (49, (42, (-34), 15, 0, [])), (52, (0, 1, 0, 0, [])), (53, (73, 0, 0, 0, []))]
-- 65: Pattern_holds
def o_65 : List (Nat × Op) := [(0, (10, 0, 0, 0, [])), (1, (56, 0, 15, 2, [4, 134])), (4, (6, 0, 1, 0, [])), (5, (59, 0, 0, 0, [])), (6, (15, 0, 6, 0, [])), (8, (10, 0, 0, 0, [])), (9, (56, 0, 19, 3, [4, 135])), (12, (6, 0, 1, 0, [])), (13, (59, 0, 0, 0, [])), (14, (15, 0, 8, 0, [])), (16, (10, 0, 0, 0, [])), (17, (56, 0, 9, 1, [4, 133])), (20, (6, 0, 1, 0, [])), (21, (58, 0, 0, 0, [])), (22, (55, 248, 1, 270, [50, 72, 86, 107, 128, 145, 162, 186, 197, 230])), (72, (6, 0, 2, 0, [])), (73, (33, 0, 0, 0, [])), (74, (9, 0, 6, 0, [])), (76, (35, 0, 0, 0, [])), (77, (44, 7, 84, 0, [])), (80, (0, 1, 0, 0, [])), (81, (42, 4, 85, 0, [])), (84, (0, 0, 0, 0, [])), (85, (73, 0, 0, 0, [])), (86, (6, 0, 2, 0, [])), (87, (33, 0, 0, 0, [])), (88, (9, 0, 6, 0, [])), (90, (35, 0, 0, 0, [])), (91, (44, 14, 105, 0, [])), (94, (8, 0, 3, 0, [])), (95, (9, 0, 8, 0, [])), (97, (35, 0, 0, 0, [])), (98, (44, 7, 105, 0, [])), (101, (0, 1, 0, 0, [])), (102, (42, 4, 106, 0, [])), (105, (0, 0, 0, 0, [])), (106, (73, 0, 0, 0, [])), (107, (6, 0, 2, 0, [])), (108, (33, 0, 0, 0, [])), (109, (9, 0, 6, 0, [])), (111, (35, 0, 0, 0, [])), (112, (44, 10, 122, 0, [])), (115, (8, 0, 3, 0, [])), (116, (9, 0, 8, 0, [])), (118, (35, 0, 0, 0, [])), (119, (43, 7, 126, 0, [])), (122, (0, 1, 0, 0, [])), (123, (42, 4, 127, 0, [])), (126, (0, 0, 0, 0, [])), (127, (73, 0, 0, 0, [])), (128, (6, 0, 2, 0, [])), (129, (44, 14, 143, 0, [])), (132, (8, 0, 3, 0, [])), (133, (9, 0, 8, 0, [])), (135, (35, 0, 0, 0, [])), (136, (46, 7, 143, 0, [])), (139, (0, 1, 0, 0, [])), (140, (42, 4, 144, 0, [])), (143, (0, 0, 0, 0, [])), (144, (73, 0, 0, 0, [])), (145, (6, 0, 2, 0, [])), (146, (44, 14, 160, 0, [])), (149, (8, 0, 3, 0, [])), (150, (9, 0, 8, 0, [])), (152, (35, 0, 0, 0, [])), (153, (48, 7, 160, 0, [])), (156, (0, 1, 0, 0, [])), (157, (42, 4, 161, 0, [])), (160, (0, 0, 0, 0, [])), (161, (73, 0, 0, 0, [])), (162, (6, 0, 2, 0, [])), (163, (44, 21, 184, 0, [])), (166, (8, 0, 3, 0, [])), (167, (9, 0, 6, 0, [])), (169, (35, 0, 0, 0, [])), (170, (45, 14, 184, 0, [])), (173, (8, 0, 3, 0, [])), (174, (9, 0, 8, 0, [])), (176, (35, 0, 0, 0, [])), (177, (47, 7, 184, 0, [])), (180, (0, 1, 0, 0, [])), (181, (42, 4, 185, 0, [])), (184, (0, 0, 0, 0, [])), (185, (73, 0, 0, 0, [])), (186, (11, 0, 5, 0, [])), (188, (9, 0, 6, 0, [])), (190, (34, 0, 0, 0, [])), (191, (6, 0, 2, 0, [])), (192, (8, 0, 3, 0, [])), (193, (67, 0, 49, 48, [3, 5, 4, 562, 563, 564, 44, 565])), (196, (73, 0, 0, 0, [])), (197, (6, 0, 2, 0, [])), (198, (0, 2, 0, 0, [])), (199, (50, 29, 228, 0, [])), (202, (8, 0, 3, 0, [])), (203, (4, (-1), 55, 566, [])), (206, (35, 0, 0, 0, [])), (207, (43, 21, 228, 0, [])), (210, (8, 0, 3, 0, [])), (211, (11, 0, 5, 0, [])), (213, (9, 0, 6, 0, [])), (215, (34, 0, 0, 0, [])), (216, (67, 0, 57, 54, [1, 5, 1, 567, 568, 569, 44, 570])), (219, (33, 0, 0, 0, [])), (220, (35, 0, 0, 0, [])), (221, (44, 7, 228, 0, [])), (224, (0, 1, 0, 0, [])), (225, (42, 4, 229, 0, [])), (228, (0, 0, 0, 0, [])), (229, (73, 0, 0, 0, [])), (230, (6, 0, 2, 0, [])), (231, (33, 0, 0, 0, [])), (232, (9, 0, 6, 0, [])), (234, (35, 0, 0, 0, [])), (235, (44, 33, 268, 0, [])), (238, (8, 0, 3, 0, [])), (239, (3, 0, 0, 0, [])), (240, (35, 0, 0, 0, [])), (241, (45, 27, 268, 0, [])), (244, (8, 0, 3, 0, [])), (245, (4, 63, 61, 571, [])), (248, (35, 0, 0, 0, [])), (249, (47, 19, 268, 0, [])), (252, (9, 0, 8, 0, [])), (254, (8, 0, 3, 0, [])), (255, (34, 0, 0, 0, [])), (256, (32, 0, 0, 0, [])), (257, (3, 1, 1, 0, [])), (258, (28, 0, 0, 0, [])), (259, (3, 1, 1, 0, [])), (260, (35, 0, 0, 0, [])), (261, (44, 7, 268, 0, [])), (264, (0, 1, 0, 0, [])), (265, (42, 4, 269, 0, [])), (268, (0, 0, 0, 0, [])), (269, (73, 0, 0, 0, [])), (270, (0, 1, 0, 0, [])), (271, (73, 0, 0, 0, []))]
-- 66: Pattern_isForm
def o_66 : List (Nat × Op) := [(0, (6, 0, 0, 0, [])), (1, (55, 111, 1, 112, [51, 52, 52, 52, 112, 112, 112, 72, 92, 52])), (52, (8, 0, 1, 0, [])), (53, (3, 0, 0, 0, [])), (54, (35, 0, 0, 0, [])), (55, (45, 15, 70, 0, [])), (58, (8, 0, 1, 0, [])), (59, (4, 2, 22, 467, [])), (62, (35, 0, 0, 0, [])), (63, (47, 7, 70, 0, [])), (66, (0, 1, 0, 0, [])), (67, (42, 4, 71, 0, [])), (70, (0, 0, 0, 0, [])), (71, (73, 0, 0, 0, [])), (72, (8, 0, 1, 0, [])), (73, (3, 0, 0, 0, [])), (74, (35, 0, 0, 0, [])), (75, (45, 15, 90, 0, [])), (78, (8, 0, 1, 0, [])), (79, (4, 4, 24, 468, [])), (82, (35, 0, 0, 0, [])), (83, (46, 7, 90, 0, [])), (86, (0, 1, 0, 0, [])), (87, (42, 4, 91, 0, [])), (90, (0, 0, 0, 0, [])), (91, (73, 0, 0, 0, [])), (92, (8, 0, 1, 0, [])), (93, (3, 0, 0, 0, [])), (94, (35, 0, 0, 0, [])), (95, (45, 15, 110, 0, [])), (98, (8, 0, 1, 0, [])), (99, (4, 2, 22, 467, [])), (102, (35, 0, 0, 0, [])), (103, (46, 7, 110, 0, [])), (106, (0, 1, 0, 0, [])), (107, (42, 4, 111, 0, [])), (110, (0, 0, 0, 0, [])), (111, (73, 0, 0, 0, [])), (112, (6, 0, 0, 0, [])), (113, (45, 13, 126, 0, [])), (116, (6, 0, 0, 0, [])), (117, (1, 9, 0, 0, [])), (119, (53, 7, 126, 0, [])), (122, (0, 1, 0, 0, [])), (123, (42, 4, 127, 0, [])), (126, (0, 0, 0, 0, [])), (127, (73, 0, 0, 0, []))]
-- 67: Session_ask
def o_67 : List (Nat × Op) := [(0, (10, 0, 0, 0, [])), (1, (6, 0, 1, 0, [])), (2, (57, 0, 42, 6, [6, 156])), (5, (10, 0, 0, 0, [])), (6, (6, 0, 2, 0, [])), (7, (57, 0, 45, 7, [6, 158])), (10, (10, 0, 0, 0, [])), (11, (0, 0, 0, 0, [])), (12, (57, 0, 31, 5, [6, 154])), (15, (10, 0, 0, 0, [])), (16, (56, 0, 27, 3, [6, 151])), (19, (67, 0, 49, 49, [0, 5, 0, 642, 551, 552, 44, 553])), (22, (76, 0, 0, 0, []))]
-- 68: Session_hasPatterns
def o_68 : List (Nat × Op) := [(0, (6, 0, 1, 0, [])), (1, (0, 1, 0, 0, [])), (2, (51, 8, 10, 0, [])), (5, (6, 0, 1, 0, [])), (6, (0, 3, 0, 0, [])), (7, (54, 5, 12, 0, [])), (10, (0, 0, 0, 0, [])), (11, (73, 0, 0, 0, [])), (12, (0, 0, 0, 0, [])), (13, (12, 0, 2, 0, [])), (14, (6, 0, 2, 0, [])), (15, (6, 0, 1, 0, [])), (16, (52, 23, 39, 0, [])), (19, (10, 0, 0, 0, [])), (20, (56, 0, 20, 2, [6, 149])), (23, (6, 0, 2, 0, [])), (24, (60, 0, 0, 0, [])), (25, (56, 0, 39, 0, [4, 130])), (28, (44, 5, 33, 0, [])), (31, (0, 0, 0, 0, [])), (32, (73, 0, 0, 0, [])), (33, (18, 1, 2, 0, [])), (36, (42, (-22), 14, 0, [])), (39, (0, 1, 0, 0, [])), (40, (73, 0, 0, 0, []))]
-- 69: Tuple_begin
def o_69 : List (Nat × Op) := [(0, (10, 0, 0, 0, [])), (1, (0, 1, 0, 0, [])), (2, (57, 0, 18, 0, [2, 192])), (5, (10, 0, 0, 0, [])), (6, (6, 0, 1, 0, [])), (7, (57, 0, 22, 1, [2, 195])), (10, (10, 0, 0, 0, [])), (11, (6, 0, 3, 0, [])), (12, (57, 0, 26, 2, [2, 198])), (15, (10, 0, 0, 0, [])), (16, (56, 0, 12, 7, [2, 207])), (19, (10, 0, 2, 0, [])), (20, (67, 0, 29, 44, [1, 3, 1, 522, 523, 524, 43, 525])), (23, (10, 0, 0, 0, [])), (24, (67, 0, 33, 77, [0, 2, 0, 529, 530, 531, 47, 532])), (27, (10, 0, 0, 0, [])), (28, (67, 0, 36, 70, [0, 2, 0, 537, 538, 539, 47, 540])), (31, (76, 0, 0, 0, []))]
-- 70: Tuple_giveBack
def o_70 : List (Nat × Op) := [(0, (10, 0, 0, 0, [])), (1, (0, (-1), 0, 0, [])), (2, (57, 0, 52, 5, [2, 203])), (5, (10, 0, 0, 0, [])), (6, (0, (-1), 0, 0, [])), (7, (57, 0, 49, 6, [2, 205])), (10, (76, 0, 0, 0, []))]
-- 71: Tuple_isOverAt
def o_71 : List (Nat × Op) := [(0, (10, 0, 0, 0, [])), (1, (56, 0, 26, 2, [2, 198])), (4, (43, 15, 19, 0, [])), (7, (6, 0, 1, 0, [])), (8, (10, 0, 0, 0, [])), (9, (56, 0, 26, 2, [2, 198])), (12, (51, 7, 19, 0, [])), (15, (0, 1, 0, 0, [])), (16, (42, 4, 20, 0, [])), (19, (0, 0, 0, 0, [])), (20, (73, 0, 0, 0, []))]
-- 72: Tuple_isPutIn
def o_72 : List (Nat × Op) := [(0, (10, 0, 0, 0, [])), (1, (56, 0, 18, 0, [2, 192])), (4, (43, 23, 27, 0, [])), (7, (10, 0, 0, 0, [])), (8, (56, 0, 46, 3, [2, 200])), (11, (6, 0, 1, 0, [])), (12, (50, 15, 27, 0, [])), (15, (10, 0, 0, 0, [])), (16, (56, 0, 43, 4, [2, 202])), (19, (6, 0, 2, 0, [])), (20, (50, 7, 27, 0, [])), (23, (0, 1, 0, 0, [])), (24, (42, 4, 28, 0, [])), (27, (0, 0, 0, 0, [])), (28, (73, 0, 0, 0, []))]
-- 73: Tuple_isSeenBy
def o_73 : List (Nat × Op) := [(0, (10, 0, 0, 0, [])), (1, (56, 0, 18, 0, [2, 192])), (4, (43, 30, 34, 0, [])), (7, (10, 0, 0, 0, [])), (8, (67, 0, 39, 74, [0, 2, 0, 592, 593, 594, 47, 595])), (11, (44, 23, 34, 0, [])), (14, (10, 0, 0, 0, [])), (15, (56, 0, 43, 4, [2, 202])), (18, (0, (-1), 0, 0, [])), (19, (49, 11, 30, 0, [])), (22, (10, 0, 0, 0, [])), (23, (56, 0, 46, 3, [2, 200])), (26, (6, 0, 1, 0, [])), (27, (50, 7, 34, 0, [])), (30, (0, 1, 0, 0, [])), (31, (42, 4, 35, 0, [])), (34, (0, 0, 0, 0, [])), (35, (73, 0, 0, 0, []))]
-- 74: Tuple_isTaken
def o_74 : List (Nat × Op) := [(0, (10, 0, 0, 0, [])), (1, (56, 0, 49, 6, [2, 205])), (4, (0, (-1), 0, 0, [])), (5, (49, 7, 12, 0, [])), (8, (0, 1, 0, 0, [])), (9, (42, 4, 13, 0, [])), (12, (0, 0, 0, 0, [])), (13, (73, 0, 0, 0, []))]
-- 75: Tuple_isTakenBy
def o_75 : List (Nat × Op) := [(0, (10, 0, 0, 0, [])), (1, (56, 0, 18, 0, [2, 192])), (4, (43, 23, 27, 0, [])), (7, (10, 0, 0, 0, [])), (8, (56, 0, 52, 5, [2, 203])), (11, (6, 0, 1, 0, [])), (12, (50, 15, 27, 0, [])), (15, (10, 0, 0, 0, [])), (16, (56, 0, 49, 6, [2, 205])), (19, (6, 0, 2, 0, [])), (20, (50, 7, 27, 0, [])), (23, (0, 1, 0, 0, [])), (24, (42, 4, 28, 0, [])), (27, (0, 0, 0, 0, [])), (28, (73, 0, 0, 0, []))]
-- 76: Tuple_putInto
def o_76 : List (Nat × Op) := [(0, (10, 0, 0, 0, [])), (1, (6, 0, 1, 0, [])), (2, (57, 0, 46, 3, [2, 200])), (5, (10, 0, 0, 0, [])), (6, (6, 0, 2, 0, [])), (7, (57, 0, 43, 4, [2, 202])), (10, (76, 0, 0, 0, []))]
-- 77: Tuple_putOutside
def o_77 : List (Nat × Op) := [(0, (10, 0, 0, 0, [])), (1, (0, (-1), 0, 0, [])), (2, (0, (-1), 0, 0, [])), (3, (67, 0, 55, 76, [2, 2, 2, 533, 534, 535, 47, 536])), (6, (76, 0, 0, 0, []))]
-- 78: Tuple_takeFor
def o_78 : List (Nat × Op) := [(0, (6, 0, 2, 0, [])), (1, (44, 11, 12, 0, [])), (4, (10, 0, 0, 0, [])), (5, (0, 0, 0, 0, [])), (6, (57, 0, 18, 0, [2, 192])), (9, (42, 13, 22, 0, [])), (12, (10, 0, 0, 0, [])), (13, (6, 0, 1, 0, [])), (14, (57, 0, 52, 5, [2, 203])), (17, (10, 0, 0, 0, [])), (18, (6, 0, 2, 0, [])), (19, (57, 0, 49, 6, [2, 205])), (22, (76, 0, 0, 0, []))]
-- 79: M_abandon
def o_79 : List (Nat × Op) := [(0, (10, 0, 0, 0, [])), (1, (10, 0, 0, 0, [])), (2, (6, 0, 1, 0, [])), (3, (0, 1, 0, 0, [])), (4, (67, 0, 130, 90, [2, 9, 2, 948, 950, 18, 50, 951])), (7, (57, 0, 110, 0, [9, 823])), (10, (10, 0, 0, 0, [])), (11, (56, 0, 110, 0, [9, 823])), (14, (47, 12, 26, 0, [])), (17, (10, 0, 0, 0, [])), (18, (56, 0, 38, 14, [9, 837])), (21, (6, 0, 1, 0, [])), (22, (58, 0, 0, 0, [])), (23, (44, 16, 39, 0, [])), (26, (10, 0, 0, 0, [])), (27, (56, 0, 110, 0, [9, 823])), (30, (48, 7, 37, 0, [])), (33, (0, 0, 0, 0, [])), (34, (42, 4, 38, 0, [])), (37, (0, (-1), 0, 0, [])), (38, (72, 0, 0, 0, [])), (39, (10, 0, 0, 0, [])), (40, (6, 0, 1, 0, [])), (41, (67, 0, 207, 86, [1, 9, 1, 1076, 1078, 37, 50, 1079])), (44, (12, 0, 2, 0, [])), (45, (6, 0, 2, 0, [])), (46, (1, 100, 0, 0, [])), (48, (51, 7, 55, 0, [])), (51, (10, 0, 0, 0, [])), (52, (67, 0, 189, 115, [0, 9, 0, 996, 998, 26, 50, 999])), (55, (6, 0, 2, 0, [])), (56, (1, 100, 0, 0, [])), (58, (22, 0, 0, 0, [])), (59, (72, 0, 0, 0, []))]
-- 80: M_about
def o_80 : List (Nat × Op) := [(0, (10, 0, 0, 0, [])), (1, (0, 0, 0, 0, [])), (2, (57, 0, 110, 0, [9, 823])), (5, (10, 0, 0, 0, [])), (6, (6, 0, 1, 0, [])), (7, (67, 0, 161, 107, [1, 9, 1, 1020, 1022, 32, 50, 1023])), (10, (12, 0, 3, 0, [])), (11, (6, 0, 3, 0, [])), (12, (45, 30, 42, 0, [])), (15, (6, 0, 2, 0, [])), (16, (45, 26, 42, 0, [])), (19, (6, 0, 2, 0, [])), (20, (1, 11, 0, 0, [])), (22, (53, 20, 42, 0, [])), (25, (6, 0, 2, 0, [])), (26, (0, 3, 0, 0, [])), (27, (54, 19, 46, 0, [])), (30, (6, 0, 2, 0, [])), (31, (0, 4, 0, 0, [])), (32, (22, 0, 0, 0, [])), (33, (10, 0, 0, 0, [])), (34, (56, 0, 13, 5, [9, 828])), (37, (6, 0, 3, 0, [])), (38, (58, 0, 0, 0, [])), (39, (51, 7, 46, 0, [])), (42, (4, (-1), 214, 1104, [])), (45, (74, 0, 0, 0, [])), (46, (6, 0, 2, 0, [])), (47, (44, 13, 60, 0, [])), (50, (10, 0, 0, 0, [])), (51, (56, 0, 13, 5, [9, 828])), (54, (6, 0, 3, 0, [])), (55, (58, 0, 0, 0, [])), (56, (33, 0, 0, 0, [])), (57, (42, 83, 140, 0, [])), (60, (6, 0, 2, 0, [])), (61, (0, 1, 0, 0, [])), (62, (50, 13, 75, 0, [])), (65, (10, 0, 0, 0, [])), (66, (56, 0, 16, 6, [9, 829])), (69, (6, 0, 3, 0, [])), (70, (58, 0, 0, 0, [])), (71, (33, 0, 0, 0, [])), (72, (42, 68, 140, 0, [])), (75, (6, 0, 2, 0, [])), (76, (0, 2, 0, 0, [])), (77, (50, 13, 90, 0, [])), (80, (10, 0, 0, 0, [])), (81, (56, 0, 19, 7, [9, 830])), (84, (6, 0, 3, 0, [])), (85, (58, 0, 0, 0, [])), (86, (33, 0, 0, 0, [])), (87, (42, 53, 140, 0, [])), (90, (6, 0, 2, 0, [])), (91, (0, 3, 0, 0, [])), (92, (50, 13, 105, 0, [])), (95, (10, 0, 0, 0, [])), (96, (56, 0, 25, 9, [9, 832])), (99, (6, 0, 3, 0, [])), (100, (58, 0, 0, 0, [])), (101, (33, 0, 0, 0, [])), (102, (42, 38, 140, 0, [])), (105, (6, 0, 2, 0, [])), (106, (1, 8, 0, 0, [])), (108, (52, 19, 127, 0, [])), (111, (10, 0, 0, 0, [])), (112, (56, 0, 31, 11, [9, 834])), (115, (0, 4, 0, 0, [])), (116, (6, 0, 3, 0, [])), (117, (21, 0, 0, 0, [])), (118, (6, 0, 2, 0, [])), (119, (19, 0, 0, 0, [])), (120, (0, 4, 0, 0, [])), (121, (20, 0, 0, 0, [])), (122, (58, 0, 0, 0, [])), (123, (33, 0, 0, 0, [])), (124, (42, 16, 140, 0, [])), (127, (10, 0, 0, 0, [])), (128, (56, 0, 34, 12, [9, 835])), (131, (0, 4, 0, 0, [])), (132, (6, 0, 3, 0, [])), (133, (21, 0, 0, 0, [])), (134, (6, 0, 2, 0, [])), (135, (19, 0, 0, 0, [])), (136, (1, 8, 0, 0, [])), (138, (20, 0, 0, 0, [])), (139, (59, 0, 0, 0, [])), (140, (74, 0, 0, 0, []))]
-- 81: M_add
def o_81 : List (Nat × Op) := [(0, (10, 0, 0, 0, [])), (1, (56, 0, 148, 1, [9, 824])), (4, (12, 0, 3, 0, [])), (5, (10, 0, 0, 0, [])), (6, (36, 0, 0, 0, [])), (7, (56, 0, 148, 1, [9, 824])), (10, (0, 1, 0, 0, [])), (11, (19, 0, 0, 0, [])), (12, (57, 0, 148, 1, [9, 824])), (15, (10, 0, 0, 0, [])), (16, (36, 0, 0, 0, [])), (17, (56, 0, 180, 2, [9, 825])), (20, (0, 1, 0, 0, [])), (21, (19, 0, 0, 0, [])), (22, (57, 0, 180, 2, [9, 825])), (25, (10, 0, 0, 0, [])), (26, (56, 0, 180, 2, [9, 825])), (29, (13, 0, 4, 0, [])), (31, (10, 0, 0, 0, [])), (32, (56, 0, 7, 4, [9, 827])), (35, (6, 0, 3, 0, [])), (36, (7, 0, 4, 0, [])), (38, (62, 0, 0, 0, [])), (39, (10, 0, 0, 0, [])), (40, (56, 0, 13, 5, [9, 828])), (43, (6, 0, 3, 0, [])), (44, (10, 0, 0, 0, [])), (45, (56, 0, 41, 15, [9, 838])), (48, (6, 0, 1, 0, [])), (49, (58, 0, 0, 0, [])), (50, (62, 0, 0, 0, [])), (51, (10, 0, 0, 0, [])), (52, (56, 0, 16, 6, [9, 829])), (55, (6, 0, 3, 0, [])), (56, (6, 0, 2, 0, [])), (57, (44, 7, 64, 0, [])), (60, (0, 0, 0, 0, [])), (61, (42, 9, 70, 0, [])), (64, (10, 0, 0, 0, [])), (65, (56, 0, 183, 3, [9, 826])), (68, (6, 0, 2, 0, [])), (69, (19, 0, 0, 0, [])), (70, (62, 0, 0, 0, [])), (71, (10, 0, 0, 0, [])), (72, (56, 0, 19, 7, [9, 830])), (75, (6, 0, 3, 0, [])), (76, (6, 0, 1, 0, [])), (77, (62, 0, 0, 0, [])), (78, (10, 0, 0, 0, [])), (79, (56, 0, 22, 8, [9, 831])), (82, (6, 0, 3, 0, [])), (83, (10, 0, 0, 0, [])), (84, (56, 0, 38, 14, [9, 837])), (87, (6, 0, 1, 0, [])), (88, (58, 0, 0, 0, [])), (89, (62, 0, 0, 0, [])), (90, (10, 0, 0, 0, [])), (91, (56, 0, 25, 9, [9, 832])), (94, (6, 0, 3, 0, [])), (95, (0, (-1), 0, 0, [])), (96, (62, 0, 0, 0, [])), (97, (0, 0, 0, 0, [])), (98, (13, 0, 5, 0, [])), (100, (7, 0, 5, 0, [])), (102, (10, 0, 0, 0, [])), (103, (56, 0, 41, 15, [9, 838])), (106, (6, 0, 1, 0, [])), (107, (58, 0, 0, 0, [])), (108, (52, 53, 161, 0, [])), (111, (10, 0, 0, 0, [])), (112, (56, 0, 31, 11, [9, 834])), (115, (0, 4, 0, 0, [])), (116, (6, 0, 3, 0, [])), (117, (21, 0, 0, 0, [])), (118, (7, 0, 5, 0, [])), (120, (19, 0, 0, 0, [])), (121, (10, 0, 0, 0, [])), (122, (56, 0, 44, 16, [9, 839])), (125, (0, 4, 0, 0, [])), (126, (6, 0, 1, 0, [])), (127, (21, 0, 0, 0, [])), (128, (7, 0, 5, 0, [])), (130, (19, 0, 0, 0, [])), (131, (58, 0, 0, 0, [])), (132, (62, 0, 0, 0, [])), (133, (10, 0, 0, 0, [])), (134, (56, 0, 34, 12, [9, 835])), (137, (0, 4, 0, 0, [])), (138, (6, 0, 3, 0, [])), (139, (21, 0, 0, 0, [])), (140, (7, 0, 5, 0, [])), (142, (19, 0, 0, 0, [])), (143, (10, 0, 0, 0, [])), (144, (56, 0, 47, 17, [9, 840])), (147, (0, 4, 0, 0, [])), (148, (6, 0, 1, 0, [])), (149, (21, 0, 0, 0, [])), (150, (7, 0, 5, 0, [])), (152, (19, 0, 0, 0, [])), (153, (59, 0, 0, 0, [])), (154, (63, 0, 0, 0, [])), (155, (18, 1, 5, 0, [])), (158, (42, (-58), 100, 0, [])), (161, (10, 0, 0, 0, [])), (162, (56, 0, 38, 14, [9, 837])), (165, (6, 0, 1, 0, [])), (166, (58, 0, 0, 0, [])), (167, (44, 12, 179, 0, [])), (170, (10, 0, 0, 0, [])), (171, (6, 0, 3, 0, [])), (172, (67, 0, 186, 106, [1, 9, 1, 979, 981, 22, 50, 982])), (175, (10, 0, 0, 0, [])), (176, (67, 0, 189, 115, [0, 9, 0, 996, 998, 26, 50, 999])), (179, (7, 0, 4, 0, [])), (181, (72, 0, 0, 0, []))]
-- 82: M_bound
def o_82 : List (Nat × Op) := [(0, (10, 0, 0, 0, [])), (1, (56, 0, 93, 34, [9, 857])), (4, (6, 0, 2, 0, [])), (5, (58, 0, 0, 0, [])), (6, (0, (-1), 0, 0, [])), (7, (50, 27, 34, 0, [])), (10, (10, 0, 0, 0, [])), (11, (56, 0, 93, 34, [9, 857])), (14, (6, 0, 2, 0, [])), (15, (10, 0, 0, 0, [])), (16, (56, 0, 31, 11, [9, 834])), (19, (6, 0, 1, 0, [])), (20, (58, 0, 0, 0, [])), (21, (62, 0, 0, 0, [])), (22, (10, 0, 0, 0, [])), (23, (56, 0, 96, 35, [9, 858])), (26, (6, 0, 2, 0, [])), (27, (10, 0, 0, 0, [])), (28, (56, 0, 34, 12, [9, 835])), (31, (6, 0, 1, 0, [])), (32, (59, 0, 0, 0, [])), (33, (63, 0, 0, 0, [])), (34, (10, 0, 0, 0, [])), (35, (56, 0, 93, 34, [9, 857])), (38, (6, 0, 2, 0, [])), (39, (58, 0, 0, 0, [])), (40, (10, 0, 0, 0, [])), (41, (56, 0, 31, 11, [9, 834])), (44, (6, 0, 1, 0, [])), (45, (58, 0, 0, 0, [])), (46, (50, 23, 69, 0, [])), (49, (10, 0, 0, 0, [])), (50, (56, 0, 96, 35, [9, 858])), (53, (6, 0, 2, 0, [])), (54, (59, 0, 0, 0, [])), (55, (10, 0, 0, 0, [])), (56, (56, 0, 34, 12, [9, 835])), (59, (6, 0, 1, 0, [])), (60, (59, 0, 0, 0, [])), (61, (35, 0, 0, 0, [])), (62, (44, 7, 69, 0, [])), (65, (0, 1, 0, 0, [])), (66, (42, 4, 70, 0, [])), (69, (0, 0, 0, 0, [])), (70, (73, 0, 0, 0, []))]
-- 83: M_clear
def o_83 : List (Nat × Op) := [(0, (0, 0, 0, 0, [])), (1, (12, 0, 2, 0, [])), (2, (6, 0, 2, 0, [])), (3, (0, 3, 0, 0, [])), (4, (52, 20, 24, 0, [])), (7, (10, 0, 0, 0, [])), (8, (56, 0, 74, 27, [9, 850])), (11, (0, 3, 0, 0, [])), (12, (6, 0, 1, 0, [])), (13, (21, 0, 0, 0, [])), (14, (6, 0, 2, 0, [])), (15, (19, 0, 0, 0, [])), (16, (0, (-1), 0, 0, [])), (17, (62, 0, 0, 0, [])), (18, (18, 1, 2, 0, [])), (21, (42, (-19), 2, 0, [])), (24, (0, 0, 0, 0, [])), (25, (12, 0, 2, 0, [])), (26, (6, 0, 2, 0, [])), (27, (0, 4, 0, 0, [])), (28, (52, 31, 59, 0, [])), (31, (10, 0, 0, 0, [])), (32, (56, 0, 77, 28, [9, 851])), (35, (0, 4, 0, 0, [])), (36, (6, 0, 1, 0, [])), (37, (21, 0, 0, 0, [])), (38, (6, 0, 2, 0, [])), (39, (19, 0, 0, 0, [])), (40, (0, (-1), 0, 0, [])), (41, (62, 0, 0, 0, [])), (42, (10, 0, 0, 0, [])), (43, (56, 0, 80, 29, [9, 852])), (46, (0, 4, 0, 0, [])), (47, (6, 0, 1, 0, [])), (48, (21, 0, 0, 0, [])), (49, (6, 0, 2, 0, [])), (50, (19, 0, 0, 0, [])), (51, (3, 0, 0, 0, [])), (52, (63, 0, 0, 0, [])), (53, (18, 1, 2, 0, [])), (56, (42, (-30), 26, 0, [])), (59, (76, 0, 0, 0, []))]
-- 84: M_collect
def o_84 : List (Nat × Op) := [(0, (10, 0, 0, 0, [])), (1, (6, 0, 1, 0, [])), (2, (45, 15, 17, 0, [])), (5, (6, 0, 1, 0, [])), (6, (10, 0, 0, 0, [])), (7, (56, 0, 167, 30, [9, 853])), (10, (52, 7, 17, 0, [])), (13, (0, 0, 0, 0, [])), (14, (42, 4, 18, 0, [])), (17, (0, 1, 0, 0, [])), (18, (57, 0, 110, 0, [9, 823])), (21, (10, 0, 0, 0, [])), (22, (56, 0, 110, 0, [9, 823])), (25, (48, 5, 30, 0, [])), (28, (0, 0, 0, 0, [])), (29, (72, 0, 0, 0, [])), (30, (10, 0, 0, 0, [])), (31, (56, 0, 83, 31, [9, 854])), (34, (6, 0, 1, 0, [])), (35, (58, 0, 0, 0, [])), (36, (44, 19, 55, 0, [])), (39, (10, 0, 0, 0, [])), (40, (56, 0, 89, 33, [9, 856])), (43, (6, 0, 1, 0, [])), (44, (61, 0, 0, 0, [])), (45, (43, 8, 53, 0, [])), (48, (1, (-2), 0, 0, [])), (50, (42, 4, 54, 0, [])), (53, (0, (-1), 0, 0, [])), (54, (72, 0, 0, 0, [])), (55, (10, 0, 0, 0, [])), (56, (56, 0, 86, 32, [9, 855])), (59, (0, 5, 0, 0, [])), (60, (6, 0, 1, 0, [])), (61, (21, 0, 0, 0, [])), (62, (58, 0, 0, 0, [])), (63, (12, 0, 2, 0, [])), (64, (10, 0, 0, 0, [])), (65, (56, 0, 83, 31, [9, 854])), (68, (6, 0, 1, 0, [])), (69, (38, 0, 0, 0, [])), (70, (58, 0, 0, 0, [])), (71, (0, 1, 0, 0, [])), (72, (20, 0, 0, 0, [])), (73, (62, 0, 0, 0, [])), (74, (0, 5, 0, 0, [])), (75, (6, 0, 1, 0, [])), (76, (21, 0, 0, 0, [])), (77, (12, 0, 3, 0, [])), (78, (6, 0, 3, 0, [])), (79, (0, 5, 0, 0, [])), (80, (6, 0, 1, 0, [])), (81, (21, 0, 0, 0, [])), (82, (10, 0, 0, 0, [])), (83, (56, 0, 83, 31, [9, 854])), (86, (6, 0, 1, 0, [])), (87, (58, 0, 0, 0, [])), (88, (19, 0, 0, 0, [])), (89, (52, 23, 112, 0, [])), (92, (10, 0, 0, 0, [])), (93, (56, 0, 86, 32, [9, 855])), (96, (6, 0, 3, 0, [])), (97, (10, 0, 0, 0, [])), (98, (56, 0, 86, 32, [9, 855])), (101, (6, 0, 3, 0, [])), (102, (0, 1, 0, 0, [])), (103, (19, 0, 0, 0, [])), (104, (58, 0, 0, 0, [])), (105, (62, 0, 0, 0, [])), (106, (18, 1, 3, 0, [])), (109, (42, (-31), 78, 0, [])), (112, (6, 0, 2, 0, [])), (113, (72, 0, 0, 0, []))]
-- 85: M_commit
def o_85 : List (Nat × Op) := [(0, (10, 0, 0, 0, [])), (1, (10, 0, 0, 0, [])), (2, (6, 0, 1, 0, [])), (3, (0, 1, 0, 0, [])), (4, (67, 0, 130, 90, [2, 9, 2, 948, 950, 18, 50, 951])), (7, (57, 0, 110, 0, [9, 823])), (10, (10, 0, 0, 0, [])), (11, (56, 0, 110, 0, [9, 823])), (14, (47, 12, 26, 0, [])), (17, (10, 0, 0, 0, [])), (18, (56, 0, 38, 14, [9, 837])), (21, (6, 0, 1, 0, [])), (22, (58, 0, 0, 0, [])), (23, (44, 16, 39, 0, [])), (26, (10, 0, 0, 0, [])), (27, (56, 0, 110, 0, [9, 823])), (30, (48, 7, 37, 0, [])), (33, (0, 0, 0, 0, [])), (34, (42, 4, 38, 0, [])), (37, (0, (-1), 0, 0, [])), (38, (72, 0, 0, 0, [])), (39, (10, 0, 0, 0, [])), (40, (56, 0, 38, 14, [9, 837])), (43, (6, 0, 1, 0, [])), (44, (58, 0, 0, 0, [])), (45, (0, 1, 0, 0, [])), (46, (54, 7, 53, 0, [])), (49, (0, 1, 0, 0, [])), (50, (42, 4, 54, 0, [])), (53, (0, 0, 0, 0, [])), (54, (12, 0, 2, 0, [])), (55, (0, 0, 0, 0, [])), (56, (12, 0, 3, 0, [])), (57, (0, 0, 0, 0, [])), (58, (13, 0, 4, 0, [])), (60, (0, 0, 0, 0, [])), (61, (13, 0, 5, 0, [])), (63, (7, 0, 5, 0, [])), (65, (10, 0, 0, 0, [])), (66, (56, 0, 148, 1, [9, 824])), (69, (52, 145, 214, 0, [])), (72, (10, 0, 0, 0, [])), (73, (6, 0, 1, 0, [])), (74, (7, 0, 5, 0, [])), (76, (67, 0, 201, 97, [2, 9, 2, 1064, 1066, 35, 50, 1067])), (79, (13, 0, 6, 0, [])), (81, (10, 0, 0, 0, [])), (82, (6, 0, 1, 0, [])), (83, (7, 0, 5, 0, [])), (85, (67, 0, 204, 99, [2, 9, 2, 1068, 1070, 36, 50, 1071])), (88, (13, 0, 7, 0, [])), (90, (7, 0, 6, 0, [])), (92, (44, 8, 100, 0, [])), (95, (7, 0, 7, 0, [])), (97, (43, 10, 107, 0, [])), (100, (7, 0, 4, 0, [])), (102, (0, 1, 0, 0, [])), (103, (19, 0, 0, 0, [])), (104, (42, 5, 109, 0, [])), (107, (7, 0, 4, 0, [])), (109, (13, 0, 4, 0, [])), (111, (10, 0, 0, 0, [])), (112, (56, 0, 22, 8, [9, 831])), (115, (7, 0, 5, 0, [])), (117, (7, 0, 6, 0, [])), (119, (43, 15, 134, 0, [])), (122, (10, 0, 0, 0, [])), (123, (56, 0, 22, 8, [9, 831])), (126, (7, 0, 5, 0, [])), (128, (58, 0, 0, 0, [])), (129, (0, 1, 0, 0, [])), (130, (20, 0, 0, 0, [])), (131, (42, 10, 141, 0, [])), (134, (10, 0, 0, 0, [])), (135, (56, 0, 22, 8, [9, 831])), (138, (7, 0, 5, 0, [])), (140, (58, 0, 0, 0, [])), (141, (62, 0, 0, 0, [])), (142, (10, 0, 0, 0, [])), (143, (56, 0, 28, 10, [9, 833])), (146, (7, 0, 5, 0, [])), (148, (7, 0, 7, 0, [])), (150, (43, 15, 165, 0, [])), (153, (10, 0, 0, 0, [])), (154, (56, 0, 28, 10, [9, 833])), (157, (7, 0, 5, 0, [])), (159, (58, 0, 0, 0, [])), (160, (0, 1, 0, 0, [])), (161, (20, 0, 0, 0, [])), (162, (42, 10, 172, 0, [])), (165, (10, 0, 0, 0, [])), (166, (56, 0, 28, 10, [9, 833])), (169, (7, 0, 5, 0, [])), (171, (58, 0, 0, 0, [])), (172, (62, 0, 0, 0, [])), (173, (7, 0, 7, 0, [])), (175, (43, 16, 191, 0, [])), (178, (6, 0, 2, 0, [])), (179, (44, 12, 191, 0, [])), (182, (10, 0, 0, 0, [])), (183, (7, 0, 5, 0, [])), (185, (67, 0, 164, 110, [1, 9, 1, 1024, 1026, 33, 50, 1027])), (188, (42, 23, 211, 0, [])), (191, (7, 0, 6, 0, [])), (193, (43, 15, 208, 0, [])), (196, (6, 0, 2, 0, [])), (197, (44, 11, 208, 0, [])), (200, (10, 0, 0, 0, [])), (201, (7, 0, 5, 0, [])), (203, (67, 0, 186, 106, [1, 9, 1, 979, 981, 22, 50, 982])), (206, (0, 1, 0, 0, [])), (207, (12, 0, 3, 0, [])), (208, (18, 1, 5, 0, [])), (211, (42, (-148), 63, 0, [])), (214, (10, 0, 0, 0, [])), (215, (56, 0, 38, 14, [9, 837])), (218, (6, 0, 1, 0, [])), (219, (38, 0, 0, 0, [])), (220, (58, 0, 0, 0, [])), (221, (0, 1, 0, 0, [])), (222, (20, 0, 0, 0, [])), (223, (62, 0, 0, 0, [])), (224, (6, 0, 3, 0, [])), (225, (43, 7, 232, 0, [])), (228, (10, 0, 0, 0, [])), (229, (67, 0, 189, 115, [0, 9, 0, 996, 998, 26, 50, 999])), (232, (7, 0, 4, 0, [])), (234, (72, 0, 0, 0, []))]
-- 86: M_drop
def o_86 : List (Nat × Op) := [(0, (0, 0, 0, 0, [])), (1, (12, 0, 2, 0, [])), (2, (0, 0, 0, 0, [])), (3, (12, 0, 3, 0, [])), (4, (0, 0, 0, 0, [])), (5, (13, 0, 4, 0, [])), (7, (7, 0, 4, 0, [])), (9, (10, 0, 0, 0, [])), (10, (56, 0, 148, 1, [9, 824])), (13, (52, 91, 104, 0, [])), (16, (10, 0, 0, 0, [])), (17, (6, 0, 1, 0, [])), (18, (7, 0, 4, 0, [])), (20, (67, 0, 204, 99, [2, 9, 2, 1068, 1070, 36, 50, 1071])), (23, (13, 0, 5, 0, [])), (25, (10, 0, 0, 0, [])), (26, (6, 0, 1, 0, [])), (27, (7, 0, 4, 0, [])), (29, (67, 0, 201, 97, [2, 9, 2, 1064, 1066, 35, 50, 1067])), (32, (43, 15, 47, 0, [])), (35, (18, 1, 2, 0, [])), (38, (10, 0, 0, 0, [])), (39, (7, 0, 4, 0, [])), (41, (67, 0, 164, 110, [1, 9, 1, 1024, 1026, 33, 50, 1027])), (44, (42, 57, 101, 0, [])), (47, (7, 0, 5, 0, [])), (49, (43, 9, 58, 0, [])), (52, (6, 0, 2, 0, [])), (53, (0, 1, 0, 0, [])), (54, (19, 0, 0, 0, [])), (55, (42, 4, 59, 0, [])), (58, (6, 0, 2, 0, [])), (59, (12, 0, 2, 0, [])), (60, (6, 0, 3, 0, [])), (61, (44, 8, 69, 0, [])), (64, (7, 0, 5, 0, [])), (66, (43, 7, 73, 0, [])), (69, (0, 1, 0, 0, [])), (70, (42, 4, 74, 0, [])), (73, (0, 0, 0, 0, [])), (74, (12, 0, 3, 0, [])), (75, (10, 0, 0, 0, [])), (76, (56, 0, 25, 9, [9, 832])), (79, (7, 0, 4, 0, [])), (81, (7, 0, 5, 0, [])), (83, (43, 7, 90, 0, [])), (86, (0, (-1), 0, 0, [])), (87, (42, 10, 97, 0, [])), (90, (10, 0, 0, 0, [])), (91, (56, 0, 25, 9, [9, 832])), (94, (7, 0, 4, 0, [])), (96, (58, 0, 0, 0, [])), (97, (62, 0, 0, 0, [])), (98, (18, 1, 4, 0, [])), (101, (42, (-94), 7, 0, [])), (104, (10, 0, 0, 0, [])), (105, (56, 0, 38, 14, [9, 837])), (108, (6, 0, 1, 0, [])), (109, (38, 0, 0, 0, [])), (110, (58, 0, 0, 0, [])), (111, (0, 1, 0, 0, [])), (112, (20, 0, 0, 0, [])), (113, (62, 0, 0, 0, [])), (114, (6, 0, 3, 0, [])), (115, (43, 10, 125, 0, [])), (118, (6, 0, 2, 0, [])), (119, (1, 100, 0, 0, [])), (121, (19, 0, 0, 0, [])), (122, (42, 4, 126, 0, [])), (125, (6, 0, 2, 0, [])), (126, (72, 0, 0, 0, []))]
-- 87: M_ending
def o_87 : List (Nat × Op) := [(0, (0, 0, 0, 0, [])), (1, (12, 0, 1, 0, [])), (2, (6, 0, 1, 0, [])), (3, (10, 0, 0, 0, [])), (4, (56, 0, 148, 1, [9, 824])), (7, (52, 33, 40, 0, [])), (10, (10, 0, 0, 0, [])), (11, (56, 0, 16, 6, [9, 829])), (14, (6, 0, 1, 0, [])), (15, (58, 0, 0, 0, [])), (16, (48, 18, 34, 0, [])), (19, (10, 0, 0, 0, [])), (20, (56, 0, 16, 6, [9, 829])), (23, (6, 0, 1, 0, [])), (24, (58, 0, 0, 0, [])), (25, (10, 0, 0, 0, [])), (26, (56, 0, 183, 3, [9, 826])), (29, (53, 5, 34, 0, [])), (32, (6, 0, 1, 0, [])), (33, (72, 0, 0, 0, [])), (34, (18, 1, 1, 0, [])), (37, (42, (-35), 2, 0, [])), (40, (0, (-1), 0, 0, [])), (41, (72, 0, 0, 0, []))]
-- 88: M_field
def o_88 : List (Nat × Op) := [(0, (10, 0, 0, 0, [])), (1, (10, 0, 0, 0, [])), (2, (6, 0, 1, 0, [])), (3, (6, 0, 2, 0, [])), (4, (33, 0, 0, 0, [])), (5, (4, 2, 124, 944, [])), (8, (68, 0, 126, 122, [2, 0, 4, 945, 946, 0, 50, 947])), (11, (67, 0, 130, 90, [2, 9, 2, 948, 950, 18, 50, 951])), (14, (57, 0, 110, 0, [9, 823])), (17, (10, 0, 0, 0, [])), (18, (10, 0, 0, 0, [])), (19, (56, 0, 110, 0, [9, 823])), (22, (44, 17, 39, 0, [])), (25, (10, 0, 0, 0, [])), (26, (56, 0, 41, 15, [9, 838])), (29, (6, 0, 1, 0, [])), (30, (58, 0, 0, 0, [])), (31, (0, 4, 0, 0, [])), (32, (50, 7, 39, 0, [])), (35, (0, 4, 0, 0, [])), (36, (42, 7, 43, 0, [])), (39, (10, 0, 0, 0, [])), (40, (56, 0, 110, 0, [9, 823])), (43, (57, 0, 110, 0, [9, 823])), (46, (10, 0, 0, 0, [])), (47, (56, 0, 110, 0, [9, 823])), (50, (48, 5, 55, 0, [])), (53, (0, 0, 0, 0, [])), (54, (72, 0, 0, 0, [])), (55, (10, 0, 0, 0, [])), (56, (56, 0, 44, 16, [9, 839])), (59, (0, 4, 0, 0, [])), (60, (6, 0, 1, 0, [])), (61, (21, 0, 0, 0, [])), (62, (10, 0, 0, 0, [])), (63, (56, 0, 41, 15, [9, 838])), (66, (6, 0, 1, 0, [])), (67, (58, 0, 0, 0, [])), (68, (19, 0, 0, 0, [])), (69, (6, 0, 2, 0, [])), (70, (62, 0, 0, 0, [])), (71, (10, 0, 0, 0, [])), (72, (56, 0, 47, 17, [9, 840])), (75, (0, 4, 0, 0, [])), (76, (6, 0, 1, 0, [])), (77, (21, 0, 0, 0, [])), (78, (10, 0, 0, 0, [])), (79, (56, 0, 41, 15, [9, 838])), (82, (6, 0, 1, 0, [])), (83, (58, 0, 0, 0, [])), (84, (19, 0, 0, 0, [])), (85, (8, 0, 3, 0, [])), (86, (63, 0, 0, 0, [])), (87, (10, 0, 0, 0, [])), (88, (56, 0, 41, 15, [9, 838])), (91, (6, 0, 1, 0, [])), (92, (38, 0, 0, 0, [])), (93, (58, 0, 0, 0, [])), (94, (0, 1, 0, 0, [])), (95, (19, 0, 0, 0, [])), (96, (62, 0, 0, 0, [])), (97, (10, 0, 0, 0, [])), (98, (56, 0, 41, 15, [9, 838])), (101, (6, 0, 1, 0, [])), (102, (58, 0, 0, 0, [])), (103, (72, 0, 0, 0, []))]
-- 89: M_find
def o_89 : List (Nat × Op) := [(0, (10, 0, 0, 0, [])), (1, (10, 0, 0, 0, [])), (2, (6, 0, 1, 0, [])), (3, (10, 0, 0, 0, [])), (4, (6, 0, 1, 0, [])), (5, (6, 0, 2, 0, [])), (6, (67, 0, 198, 109, [2, 9, 2, 1032, 1034, 34, 50, 1035])), (9, (43, 18, 27, 0, [])), (12, (6, 0, 3, 0, [])), (13, (33, 0, 0, 0, [])), (14, (4, 3, 136, 965, [])), (17, (68, 0, 126, 122, [2, 0, 4, 945, 946, 0, 50, 947])), (20, (43, 7, 27, 0, [])), (23, (0, 1, 0, 0, [])), (24, (42, 4, 28, 0, [])), (27, (0, 0, 0, 0, [])), (28, (67, 0, 130, 90, [2, 9, 2, 948, 950, 18, 50, 951])), (31, (57, 0, 110, 0, [9, 823])), (34, (10, 0, 0, 0, [])), (35, (56, 0, 110, 0, [9, 823])), (38, (48, 5, 43, 0, [])), (41, (0, 0, 0, 0, [])), (42, (72, 0, 0, 0, [])), (43, (10, 0, 0, 0, [])), (44, (56, 0, 71, 26, [9, 849])), (47, (6, 0, 1, 0, [])), (48, (0, 0, 0, 0, [])), (49, (62, 0, 0, 0, [])), (50, (10, 0, 0, 0, [])), (51, (6, 0, 1, 0, [])), (52, (67, 0, 106, 83, [1, 9, 1, 819, 821, 17, 50, 822])), (55, (10, 0, 0, 0, [])), (56, (6, 0, 1, 0, [])), (57, (6, 0, 2, 0, [])), (58, (67, 0, 170, 112, [2, 9, 2, 1000, 1002, 27, 50, 1003])), (61, (43, 30, 91, 0, [])), (64, (10, 0, 0, 0, [])), (65, (6, 0, 1, 0, [])), (66, (6, 0, 2, 0, [])), (67, (6, 0, 3, 0, [])), (68, (0, 1, 0, 0, [])), (69, (23, 0, 0, 0, [])), (70, (0, 1, 0, 0, [])), (71, (50, 7, 78, 0, [])), (74, (0, 1, 0, 0, [])), (75, (42, 4, 79, 0, [])), (78, (0, 0, 0, 0, [])), (79, (67, 0, 176, 100, [3, 9, 3, 1016, 1018, 31, 50, 1019])), (82, (10, 0, 0, 0, [])), (83, (56, 0, 74, 27, [9, 850])), (86, (0, 3, 0, 0, [])), (87, (6, 0, 1, 0, [])), (88, (21, 0, 0, 0, [])), (89, (58, 0, 0, 0, [])), (90, (72, 0, 0, 0, [])), (91, (6, 0, 3, 0, [])), (92, (0, 2, 0, 0, [])), (93, (52, 5, 98, 0, [])), (96, (0, (-1), 0, 0, [])), (97, (72, 0, 0, 0, [])), (98, (10, 0, 0, 0, [])), (99, (56, 0, 62, 23, [9, 846])), (102, (10, 0, 0, 0, [])), (103, (56, 0, 113, 22, [9, 845])), (106, (6, 0, 1, 0, [])), (107, (62, 0, 0, 0, [])), (108, (10, 0, 0, 0, [])), (109, (36, 0, 0, 0, [])), (110, (56, 0, 113, 22, [9, 845])), (113, (0, 1, 0, 0, [])), (114, (19, 0, 0, 0, [])), (115, (57, 0, 113, 22, [9, 845])), (118, (10, 0, 0, 0, [])), (119, (56, 0, 65, 24, [9, 847])), (122, (6, 0, 1, 0, [])), (123, (6, 0, 2, 0, [])), (124, (62, 0, 0, 0, [])), (125, (10, 0, 0, 0, [])), (126, (56, 0, 68, 25, [9, 848])), (129, (6, 0, 1, 0, [])), (130, (6, 0, 3, 0, [])), (131, (62, 0, 0, 0, [])), (132, (0, 0, 0, 0, [])), (133, (72, 0, 0, 0, []))]
-- 90: M_first
def o_90 : List (Nat × Op) := [(0, (10, 0, 0, 0, [])), (1, (6, 0, 1, 0, [])), (2, (67, 0, 116, 98, [1, 9, 1, 952, 954, 19, 50, 955])), (5, (44, 7, 12, 0, [])), (8, (0, 1, 0, 0, [])), (9, (42, 24, 33, 0, [])), (12, (10, 0, 0, 0, [])), (13, (6, 0, 1, 0, [])), (14, (67, 0, 120, 117, [1, 9, 1, 956, 958, 20, 50, 959])), (17, (45, 7, 24, 0, [])), (20, (0, 2, 0, 0, [])), (21, (42, 12, 33, 0, [])), (24, (6, 0, 2, 0, [])), (25, (43, 7, 32, 0, [])), (28, (0, 0, 0, 0, [])), (29, (42, 4, 33, 0, [])), (32, (0, 3, 0, 0, [])), (33, (72, 0, 0, 0, []))]
-- 91: M_fits
def o_91 : List (Nat × Op) := [(0, (0, 4, 0, 0, [])), (1, (6, 0, 3, 0, [])), (2, (21, 0, 0, 0, [])), (3, (13, 0, 4, 0, [])), (5, (7, 0, 4, 0, [])), (7, (0, 4, 0, 0, [])), (8, (6, 0, 3, 0, [])), (9, (21, 0, 0, 0, [])), (10, (0, 4, 0, 0, [])), (11, (19, 0, 0, 0, [])), (12, (52, 41, 53, 0, [])), (15, (10, 0, 0, 0, [])), (16, (56, 0, 93, 34, [9, 857])), (19, (7, 0, 4, 0, [])), (21, (0, 4, 0, 0, [])), (22, (19, 0, 0, 0, [])), (23, (10, 0, 0, 0, [])), (24, (56, 0, 93, 34, [9, 857])), (27, (7, 0, 4, 0, [])), (29, (58, 0, 0, 0, [])), (30, (62, 0, 0, 0, [])), (31, (10, 0, 0, 0, [])), (32, (56, 0, 96, 35, [9, 858])), (35, (7, 0, 4, 0, [])), (37, (0, 4, 0, 0, [])), (38, (19, 0, 0, 0, [])), (39, (10, 0, 0, 0, [])), (40, (56, 0, 96, 35, [9, 858])), (43, (7, 0, 4, 0, [])), (45, (59, 0, 0, 0, [])), (46, (63, 0, 0, 0, [])), (47, (18, 1, 4, 0, [])), (50, (42, (-45), 5, 0, [])), (53, (10, 0, 0, 0, [])), (54, (56, 0, 13, 5, [9, 828])), (57, (6, 0, 1, 0, [])), (58, (58, 0, 0, 0, [])), (59, (10, 0, 0, 0, [])), (60, (56, 0, 50, 18, [9, 841])), (63, (6, 0, 2, 0, [])), (64, (58, 0, 0, 0, [])), (65, (50, 7, 72, 0, [])), (68, (0, 1, 0, 0, [])), (69, (42, 4, 73, 0, [])), (72, (0, 0, 0, 0, [])), (73, (13, 0, 4, 0, [])), (75, (0, 0, 0, 0, [])), (76, (13, 0, 5, 0, [])), (78, (7, 0, 5, 0, [])), (80, (10, 0, 0, 0, [])), (81, (56, 0, 50, 18, [9, 841])), (84, (6, 0, 2, 0, [])), (85, (58, 0, 0, 0, [])), (86, (52, 33, 119, 0, [])), (89, (7, 0, 4, 0, [])), (91, (43, 28, 119, 0, [])), (94, (10, 0, 0, 0, [])), (95, (0, 4, 0, 0, [])), (96, (6, 0, 1, 0, [])), (97, (21, 0, 0, 0, [])), (98, (7, 0, 5, 0, [])), (100, (19, 0, 0, 0, [])), (101, (0, 4, 0, 0, [])), (102, (6, 0, 2, 0, [])), (103, (21, 0, 0, 0, [])), (104, (7, 0, 5, 0, [])), (106, (19, 0, 0, 0, [])), (107, (6, 0, 3, 0, [])), (108, (67, 0, 144, 96, [3, 9, 3, 987, 989, 24, 50, 990])), (111, (13, 0, 4, 0, [])), (113, (18, 1, 5, 0, [])), (116, (42, (-38), 78, 0, [])), (119, (7, 0, 4, 0, [])), (121, (73, 0, 0, 0, []))]
-- 92: M_fold
def o_92 : List (Nat × Op) := [(0, (10, 0, 0, 0, [])), (1, (10, 0, 0, 0, [])), (2, (6, 0, 1, 0, [])), (3, (10, 0, 0, 0, [])), (4, (6, 0, 1, 0, [])), (5, (0, 1, 0, 0, [])), (6, (67, 0, 198, 109, [2, 9, 2, 1032, 1034, 34, 50, 1035])), (9, (43, 29, 38, 0, [])), (12, (6, 0, 2, 0, [])), (13, (33, 0, 0, 0, [])), (14, (4, 3, 136, 965, [])), (17, (68, 0, 126, 122, [2, 0, 4, 945, 946, 0, 50, 947])), (20, (43, 18, 38, 0, [])), (23, (6, 0, 3, 0, [])), (24, (33, 0, 0, 0, [])), (25, (4, 3, 136, 965, [])), (28, (68, 0, 126, 122, [2, 0, 4, 945, 946, 0, 50, 947])), (31, (43, 7, 38, 0, [])), (34, (0, 1, 0, 0, [])), (35, (42, 4, 39, 0, [])), (38, (0, 0, 0, 0, [])), (39, (67, 0, 130, 90, [2, 9, 2, 948, 950, 18, 50, 951])), (42, (57, 0, 110, 0, [9, 823])), (45, (10, 0, 0, 0, [])), (46, (56, 0, 110, 0, [9, 823])), (49, (48, 5, 54, 0, [])), (52, (3, 0, 0, 0, [])), (53, (74, 0, 0, 0, [])), (54, (0, 0, 0, 0, [])), (55, (13, 0, 4, 0, [])), (57, (0, 0, 0, 0, [])), (58, (13, 0, 5, 0, [])), (60, (3, 0, 0, 0, [])), (61, (15, 0, 6, 0, [])), (63, (3, 0, 0, 0, [])), (64, (15, 0, 8, 0, [])), (66, (3, 0, 0, 0, [])), (67, (15, 0, 10, 0, [])), (69, (0, 0, 0, 0, [])), (70, (13, 0, 12, 0, [])), (72, (7, 0, 12, 0, [])), (74, (10, 0, 0, 0, [])), (75, (56, 0, 148, 1, [9, 824])), (78, (52, 133, 211, 0, [])), (81, (10, 0, 0, 0, [])), (82, (6, 0, 1, 0, [])), (83, (7, 0, 12, 0, [])), (85, (67, 0, 151, 114, [2, 9, 2, 1008, 1010, 29, 50, 1011])), (88, (43, 117, 205, 0, [])), (91, (10, 0, 0, 0, [])), (92, (7, 0, 12, 0, [])), (94, (0, 3, 0, 0, [])), (95, (6, 0, 1, 0, [])), (96, (21, 0, 0, 0, [])), (97, (0, 0, 0, 0, [])), (98, (67, 0, 154, 91, [3, 9, 3, 983, 985, 23, 50, 986])), (101, (44, 6, 107, 0, [])), (104, (42, 101, 205, 0, [])), (107, (18, 1, 4, 0, [])), (110, (6, 0, 2, 0, [])), (111, (10, 0, 0, 0, [])), (112, (56, 0, 13, 5, [9, 828])), (115, (7, 0, 12, 0, [])), (117, (58, 0, 0, 0, [])), (118, (52, 87, 205, 0, [])), (121, (10, 0, 0, 0, [])), (122, (56, 0, 31, 11, [9, 834])), (125, (0, 4, 0, 0, [])), (126, (7, 0, 12, 0, [])), (128, (21, 0, 0, 0, [])), (129, (6, 0, 2, 0, [])), (130, (19, 0, 0, 0, [])), (131, (58, 0, 0, 0, [])), (132, (43, 6, 138, 0, [])), (135, (42, 70, 205, 0, [])), (138, (10, 0, 0, 0, [])), (139, (56, 0, 34, 12, [9, 835])), (142, (0, 4, 0, 0, [])), (143, (7, 0, 12, 0, [])), (145, (21, 0, 0, 0, [])), (146, (6, 0, 2, 0, [])), (147, (19, 0, 0, 0, [])), (148, (59, 0, 0, 0, [])), (149, (15, 0, 13, 0, [])), (151, (9, 0, 6, 0, [])), (153, (9, 0, 13, 0, [])), (155, (27, 0, 0, 0, [])), (156, (15, 0, 6, 0, [])), (158, (7, 0, 5, 0, [])), (160, (43, 11, 171, 0, [])), (163, (9, 0, 13, 0, [])), (165, (9, 0, 8, 0, [])), (167, (35, 0, 0, 0, [])), (168, (46, 8, 176, 0, [])), (171, (9, 0, 13, 0, [])), (173, (42, 5, 178, 0, [])), (176, (9, 0, 8, 0, [])), (178, (15, 0, 8, 0, [])), (180, (7, 0, 5, 0, [])), (182, (43, 11, 193, 0, [])), (185, (9, 0, 13, 0, [])), (187, (9, 0, 10, 0, [])), (189, (35, 0, 0, 0, [])), (190, (48, 8, 198, 0, [])), (193, (9, 0, 13, 0, [])), (195, (42, 5, 200, 0, [])), (198, (9, 0, 10, 0, [])), (200, (15, 0, 10, 0, [])), (202, (0, 1, 0, 0, [])), (203, (13, 0, 5, 0, [])), (205, (18, 1, 12, 0, [])), (208, (42, (-136), 72, 0, [])), (211, (6, 0, 3, 0, [])), (212, (44, 9, 221, 0, [])), (215, (7, 0, 4, 0, [])), (217, (33, 0, 0, 0, [])), (218, (42, 25, 243, 0, [])), (221, (6, 0, 3, 0, [])), (222, (0, 1, 0, 0, [])), (223, (50, 8, 231, 0, [])), (226, (9, 0, 6, 0, [])), (228, (42, 15, 243, 0, [])), (231, (6, 0, 3, 0, [])), (232, (0, 2, 0, 0, [])), (233, (50, 8, 241, 0, [])), (236, (9, 0, 8, 0, [])), (238, (42, 5, 243, 0, [])), (241, (9, 0, 10, 0, [])), (243, (74, 0, 0, 0, []))]
-- 93: M_forget
def o_93 : List (Nat × Op) := [(0, (10, 0, 0, 0, [])), (1, (10, 0, 0, 0, [])), (2, (6, 0, 1, 0, [])), (3, (6, 0, 2, 0, [])), (4, (0, (-1), 0, 0, [])), (5, (51, 12, 17, 0, [])), (8, (6, 0, 2, 0, [])), (9, (0, 3, 0, 0, [])), (10, (52, 7, 17, 0, [])), (13, (0, 1, 0, 0, [])), (14, (42, 4, 18, 0, [])), (17, (0, 0, 0, 0, [])), (18, (67, 0, 130, 90, [2, 9, 2, 948, 950, 18, 50, 951])), (21, (57, 0, 110, 0, [9, 823])), (24, (10, 0, 0, 0, [])), (25, (56, 0, 110, 0, [9, 823])), (28, (48, 5, 33, 0, [])), (31, (0, 0, 0, 0, [])), (32, (72, 0, 0, 0, [])), (33, (6, 0, 2, 0, [])), (34, (46, 12, 46, 0, [])), (37, (10, 0, 0, 0, [])), (38, (56, 0, 41, 15, [9, 838])), (41, (6, 0, 1, 0, [])), (42, (58, 0, 0, 0, [])), (43, (42, 13, 56, 0, [])), (46, (10, 0, 0, 0, [])), (47, (56, 0, 50, 18, [9, 841])), (50, (0, 3, 0, 0, [])), (51, (6, 0, 1, 0, [])), (52, (21, 0, 0, 0, [])), (53, (6, 0, 2, 0, [])), (54, (19, 0, 0, 0, [])), (55, (58, 0, 0, 0, [])), (56, (12, 0, 3, 0, [])), (57, (6, 0, 2, 0, [])), (58, (46, 13, 71, 0, [])), (61, (10, 0, 0, 0, [])), (62, (56, 0, 41, 15, [9, 838])), (65, (6, 0, 1, 0, [])), (66, (0, 0, 0, 0, [])), (67, (62, 0, 0, 0, [])), (68, (42, 14, 82, 0, [])), (71, (10, 0, 0, 0, [])), (72, (56, 0, 50, 18, [9, 841])), (75, (0, 3, 0, 0, [])), (76, (6, 0, 1, 0, [])), (77, (21, 0, 0, 0, [])), (78, (6, 0, 2, 0, [])), (79, (19, 0, 0, 0, [])), (80, (0, 0, 0, 0, [])), (81, (62, 0, 0, 0, [])), (82, (6, 0, 3, 0, [])), (83, (72, 0, 0, 0, []))]
-- 94: M_form
def o_94 : List (Nat × Op) := [(0, (6, 0, 3, 0, [])), (1, (0, 1, 0, 0, [])), (2, (49, 19, 21, 0, [])), (5, (6, 0, 3, 0, [])), (6, (0, 2, 0, 0, [])), (7, (49, 14, 21, 0, [])), (10, (6, 0, 3, 0, [])), (11, (0, 3, 0, 0, [])), (12, (49, 9, 21, 0, [])), (15, (6, 0, 3, 0, [])), (16, (1, 9, 0, 0, [])), (18, (50, 7, 25, 0, [])), (21, (0, 1, 0, 0, [])), (22, (42, 4, 26, 0, [])), (25, (0, 0, 0, 0, [])), (26, (13, 0, 8, 0, [])), (28, (6, 0, 2, 0, [])), (29, (33, 0, 0, 0, [])), (30, (4, 2, 124, 944, [])), (33, (68, 0, 126, 122, [2, 0, 4, 945, 946, 0, 50, 947])), (36, (43, 66, 102, 0, [])), (39, (6, 0, 3, 0, [])), (40, (33, 0, 0, 0, [])), (41, (4, 9, 134, 964, [])), (44, (68, 0, 126, 122, [2, 0, 4, 945, 946, 0, 50, 947])), (47, (43, 55, 102, 0, [])), (50, (7, 0, 8, 0, [])), (52, (43, 14, 66, 0, [])), (55, (9, 0, 4, 0, [])), (57, (4, 2, 124, 944, [])), (60, (68, 0, 126, 122, [2, 0, 4, 945, 946, 0, 50, 947])), (63, (43, 39, 102, 0, [])), (66, (6, 0, 3, 0, [])), (67, (1, 7, 0, 0, [])), (69, (50, 14, 83, 0, [])), (72, (9, 0, 4, 0, [])), (74, (4, 3, 136, 965, [])), (77, (68, 0, 126, 122, [2, 0, 4, 945, 946, 0, 50, 947])), (80, (43, 22, 102, 0, [])), (83, (6, 0, 3, 0, [])), (84, (1, 8, 0, 0, [])), (86, (50, 12, 98, 0, [])), (89, (9, 0, 4, 0, [])), (91, (3, 1, 1, 0, [])), (92, (68, 0, 126, 122, [2, 0, 4, 945, 946, 0, 50, 947])), (95, (43, 7, 102, 0, [])), (98, (0, 1, 0, 0, [])), (99, (42, 4, 103, 0, [])), (102, (0, 0, 0, 0, [])), (103, (13, 0, 9, 0, [])), (105, (10, 0, 0, 0, [])), (106, (10, 0, 0, 0, [])), (107, (6, 0, 1, 0, [])), (108, (7, 0, 9, 0, [])), (110, (67, 0, 130, 90, [2, 9, 2, 948, 950, 18, 50, 951])), (113, (57, 0, 110, 0, [9, 823])), (116, (10, 0, 0, 0, [])), (117, (10, 0, 0, 0, [])), (118, (56, 0, 110, 0, [9, 823])), (121, (44, 21, 142, 0, [])), (124, (10, 0, 0, 0, [])), (125, (56, 0, 50, 18, [9, 841])), (128, (0, 3, 0, 0, [])), (129, (6, 0, 1, 0, [])), (130, (21, 0, 0, 0, [])), (131, (6, 0, 2, 0, [])), (132, (19, 0, 0, 0, [])), (133, (58, 0, 0, 0, [])), (134, (0, 4, 0, 0, [])), (135, (50, 7, 142, 0, [])), (138, (0, 4, 0, 0, [])), (139, (42, 7, 146, 0, [])), (142, (10, 0, 0, 0, [])), (143, (56, 0, 110, 0, [9, 823])), (146, (57, 0, 110, 0, [9, 823])), (149, (10, 0, 0, 0, [])), (150, (56, 0, 110, 0, [9, 823])), (153, (48, 5, 158, 0, [])), (156, (0, 0, 0, 0, [])), (157, (72, 0, 0, 0, [])), (158, (0, 3, 0, 0, [])), (159, (6, 0, 1, 0, [])), (160, (21, 0, 0, 0, [])), (161, (6, 0, 2, 0, [])), (162, (19, 0, 0, 0, [])), (163, (13, 0, 10, 0, [])), (165, (0, 4, 0, 0, [])), (166, (7, 0, 10, 0, [])), (168, (21, 0, 0, 0, [])), (169, (10, 0, 0, 0, [])), (170, (56, 0, 50, 18, [9, 841])), (173, (7, 0, 10, 0, [])), (175, (58, 0, 0, 0, [])), (176, (19, 0, 0, 0, [])), (177, (13, 0, 11, 0, [])), (179, (10, 0, 0, 0, [])), (180, (56, 0, 53, 19, [9, 842])), (183, (7, 0, 11, 0, [])), (185, (6, 0, 3, 0, [])), (186, (62, 0, 0, 0, [])), (187, (10, 0, 0, 0, [])), (188, (56, 0, 56, 20, [9, 843])), (191, (7, 0, 11, 0, [])), (193, (9, 0, 4, 0, [])), (195, (63, 0, 0, 0, [])), (196, (10, 0, 0, 0, [])), (197, (56, 0, 59, 21, [9, 844])), (200, (7, 0, 11, 0, [])), (202, (9, 0, 6, 0, [])), (204, (63, 0, 0, 0, [])), (205, (10, 0, 0, 0, [])), (206, (56, 0, 50, 18, [9, 841])), (209, (7, 0, 10, 0, [])), (211, (38, 0, 0, 0, [])), (212, (58, 0, 0, 0, [])), (213, (0, 1, 0, 0, [])), (214, (19, 0, 0, 0, [])), (215, (62, 0, 0, 0, [])), (216, (10, 0, 0, 0, [])), (217, (56, 0, 50, 18, [9, 841])), (220, (7, 0, 10, 0, [])), (222, (58, 0, 0, 0, [])), (223, (72, 0, 0, 0, []))]
-- 95: M_found
def o_95 : List (Nat × Op) := [(0, (10, 0, 0, 0, [])), (1, (10, 0, 0, 0, [])), (2, (6, 0, 1, 0, [])), (3, (67, 0, 116, 98, [1, 9, 1, 952, 954, 19, 50, 955])), (6, (43, 7, 13, 0, [])), (9, (0, 0, 0, 0, [])), (10, (42, 4, 14, 0, [])), (13, (0, 1, 0, 0, [])), (14, (57, 0, 110, 0, [9, 823])), (17, (10, 0, 0, 0, [])), (18, (56, 0, 110, 0, [9, 823])), (21, (48, 5, 26, 0, [])), (24, (3, 0, 0, 0, [])), (25, (74, 0, 0, 0, [])), (26, (6, 0, 2, 0, [])), (27, (45, 9, 36, 0, [])), (30, (6, 0, 2, 0, [])), (31, (1, 10, 0, 0, [])), (33, (54, 7, 40, 0, [])), (36, (4, (-1), 214, 1104, [])), (39, (74, 0, 0, 0, [])), (40, (6, 0, 2, 0, [])), (41, (0, 3, 0, 0, [])), (42, (52, 17, 59, 0, [])), (45, (10, 0, 0, 0, [])), (46, (56, 0, 74, 27, [9, 850])), (49, (0, 3, 0, 0, [])), (50, (6, 0, 1, 0, [])), (51, (21, 0, 0, 0, [])), (52, (6, 0, 2, 0, [])), (53, (19, 0, 0, 0, [])), (54, (58, 0, 0, 0, [])), (55, (33, 0, 0, 0, [])), (56, (42, 38, 94, 0, [])), (59, (6, 0, 2, 0, [])), (60, (1, 7, 0, 0, [])), (62, (52, 19, 81, 0, [])), (65, (10, 0, 0, 0, [])), (66, (56, 0, 77, 28, [9, 851])), (69, (0, 4, 0, 0, [])), (70, (6, 0, 1, 0, [])), (71, (21, 0, 0, 0, [])), (72, (6, 0, 2, 0, [])), (73, (19, 0, 0, 0, [])), (74, (0, 3, 0, 0, [])), (75, (20, 0, 0, 0, [])), (76, (58, 0, 0, 0, [])), (77, (33, 0, 0, 0, [])), (78, (42, 16, 94, 0, [])), (81, (10, 0, 0, 0, [])), (82, (56, 0, 80, 29, [9, 852])), (85, (0, 4, 0, 0, [])), (86, (6, 0, 1, 0, [])), (87, (21, 0, 0, 0, [])), (88, (6, 0, 2, 0, [])), (89, (19, 0, 0, 0, [])), (90, (1, 7, 0, 0, [])), (92, (20, 0, 0, 0, [])), (93, (59, 0, 0, 0, [])), (94, (74, 0, 0, 0, []))]
-- 96: M_holds
def o_96 : List (Nat × Op) := [(0, (10, 0, 0, 0, [])), (1, (56, 0, 31, 11, [9, 834])), (4, (6, 0, 1, 0, [])), (5, (58, 0, 0, 0, [])), (6, (33, 0, 0, 0, [])), (7, (10, 0, 0, 0, [])), (8, (56, 0, 56, 20, [9, 843])), (11, (6, 0, 2, 0, [])), (12, (59, 0, 0, 0, [])), (13, (35, 0, 0, 0, [])), (14, (44, 7, 21, 0, [])), (17, (0, 1, 0, 0, [])), (18, (42, 4, 22, 0, [])), (21, (0, 0, 0, 0, [])), (22, (13, 0, 4, 0, [])), (24, (10, 0, 0, 0, [])), (25, (56, 0, 53, 19, [9, 842])), (28, (6, 0, 2, 0, [])), (29, (58, 0, 0, 0, [])), (30, (55, 293, 0, 323, [50, 80, 82, 85, 112, 139, 170, 201, 248, 267])), (80, (0, 1, 0, 0, [])), (81, (73, 0, 0, 0, [])), (82, (7, 0, 4, 0, [])), (84, (73, 0, 0, 0, [])), (85, (7, 0, 4, 0, [])), (87, (43, 23, 110, 0, [])), (90, (10, 0, 0, 0, [])), (91, (56, 0, 34, 12, [9, 835])), (94, (6, 0, 1, 0, [])), (95, (59, 0, 0, 0, [])), (96, (10, 0, 0, 0, [])), (97, (56, 0, 59, 21, [9, 844])), (100, (6, 0, 2, 0, [])), (101, (59, 0, 0, 0, [])), (102, (35, 0, 0, 0, [])), (103, (44, 7, 110, 0, [])), (106, (0, 1, 0, 0, [])), (107, (42, 4, 111, 0, [])), (110, (0, 0, 0, 0, [])), (111, (73, 0, 0, 0, [])), (112, (7, 0, 4, 0, [])), (114, (43, 19, 133, 0, [])), (117, (10, 0, 0, 0, [])), (118, (56, 0, 34, 12, [9, 835])), (121, (6, 0, 1, 0, [])), (122, (59, 0, 0, 0, [])), (123, (10, 0, 0, 0, [])), (124, (56, 0, 59, 21, [9, 844])), (127, (6, 0, 2, 0, [])), (128, (59, 0, 0, 0, [])), (129, (35, 0, 0, 0, [])), (130, (43, 7, 137, 0, [])), (133, (0, 1, 0, 0, [])), (134, (42, 4, 138, 0, [])), (137, (0, 0, 0, 0, [])), (138, (73, 0, 0, 0, [])), (139, (10, 0, 0, 0, [])), (140, (56, 0, 31, 11, [9, 834])), (143, (6, 0, 1, 0, [])), (144, (58, 0, 0, 0, [])), (145, (44, 23, 168, 0, [])), (148, (10, 0, 0, 0, [])), (149, (56, 0, 34, 12, [9, 835])), (152, (6, 0, 1, 0, [])), (153, (59, 0, 0, 0, [])), (154, (10, 0, 0, 0, [])), (155, (56, 0, 59, 21, [9, 844])), (158, (6, 0, 2, 0, [])), (159, (59, 0, 0, 0, [])), (160, (35, 0, 0, 0, [])), (161, (46, 7, 168, 0, [])), (164, (0, 1, 0, 0, [])), (165, (42, 4, 169, 0, [])), (168, (0, 0, 0, 0, [])), (169, (73, 0, 0, 0, [])), (170, (10, 0, 0, 0, [])), (171, (56, 0, 31, 11, [9, 834])), (174, (6, 0, 1, 0, [])), (175, (58, 0, 0, 0, [])), (176, (44, 23, 199, 0, [])), (179, (10, 0, 0, 0, [])), (180, (56, 0, 34, 12, [9, 835])), (183, (6, 0, 1, 0, [])), (184, (59, 0, 0, 0, [])), (185, (10, 0, 0, 0, [])), (186, (56, 0, 59, 21, [9, 844])), (189, (6, 0, 2, 0, [])), (190, (59, 0, 0, 0, [])), (191, (35, 0, 0, 0, [])), (192, (48, 7, 199, 0, [])), (195, (0, 1, 0, 0, [])), (196, (42, 4, 200, 0, [])), (199, (0, 0, 0, 0, [])), (200, (73, 0, 0, 0, [])), (201, (10, 0, 0, 0, [])), (202, (56, 0, 31, 11, [9, 834])), (205, (6, 0, 1, 0, [])), (206, (58, 0, 0, 0, [])), (207, (44, 39, 246, 0, [])), (210, (10, 0, 0, 0, [])), (211, (56, 0, 34, 12, [9, 835])), (214, (6, 0, 1, 0, [])), (215, (59, 0, 0, 0, [])), (216, (10, 0, 0, 0, [])), (217, (56, 0, 56, 20, [9, 843])), (220, (6, 0, 2, 0, [])), (221, (59, 0, 0, 0, [])), (222, (35, 0, 0, 0, [])), (223, (45, 23, 246, 0, [])), (226, (10, 0, 0, 0, [])), (227, (56, 0, 34, 12, [9, 835])), (230, (6, 0, 1, 0, [])), (231, (59, 0, 0, 0, [])), (232, (10, 0, 0, 0, [])), (233, (56, 0, 59, 21, [9, 844])), (236, (6, 0, 2, 0, [])), (237, (59, 0, 0, 0, [])), (238, (35, 0, 0, 0, [])), (239, (47, 7, 246, 0, [])), (242, (0, 1, 0, 0, [])), (243, (42, 4, 247, 0, [])), (246, (0, 0, 0, 0, [])), (247, (73, 0, 0, 0, [])), (248, (10, 0, 0, 0, [])), (249, (6, 0, 1, 0, [])), (250, (0, 4, 0, 0, [])), (251, (6, 0, 3, 0, [])), (252, (21, 0, 0, 0, [])), (253, (0, 4, 0, 0, [])), (254, (19, 0, 0, 0, [])), (255, (10, 0, 0, 0, [])), (256, (56, 0, 56, 20, [9, 843])), (259, (6, 0, 2, 0, [])), (260, (59, 0, 0, 0, [])), (261, (34, 0, 0, 0, [])), (262, (19, 0, 0, 0, [])), (263, (67, 0, 138, 82, [2, 9, 2, 991, 993, 25, 50, 994])), (266, (73, 0, 0, 0, [])), (267, (10, 0, 0, 0, [])), (268, (56, 0, 31, 11, [9, 834])), (271, (6, 0, 1, 0, [])), (272, (58, 0, 0, 0, [])), (273, (0, 2, 0, 0, [])), (274, (50, 47, 321, 0, [])), (277, (10, 0, 0, 0, [])), (278, (56, 0, 56, 20, [9, 843])), (281, (6, 0, 2, 0, [])), (282, (59, 0, 0, 0, [])), (283, (6, 0, 3, 0, [])), (284, (33, 0, 0, 0, [])), (285, (35, 0, 0, 0, [])), (286, (46, 35, 321, 0, [])), (289, (10, 0, 0, 0, [])), (290, (56, 0, 34, 12, [9, 835])), (293, (6, 0, 1, 0, [])), (294, (59, 0, 0, 0, [])), (295, (10, 0, 0, 0, [])), (296, (56, 0, 7, 4, [9, 827])), (299, (10, 0, 0, 0, [])), (300, (56, 0, 99, 36, [9, 859])), (303, (10, 0, 0, 0, [])), (304, (56, 0, 56, 20, [9, 843])), (307, (6, 0, 2, 0, [])), (308, (59, 0, 0, 0, [])), (309, (34, 0, 0, 0, [])), (310, (58, 0, 0, 0, [])), (311, (58, 0, 0, 0, [])), (312, (33, 0, 0, 0, [])), (313, (35, 0, 0, 0, [])), (314, (44, 7, 321, 0, [])), (317, (0, 1, 0, 0, [])), (318, (42, 4, 322, 0, [])), (321, (0, 0, 0, 0, [])), (322, (73, 0, 0, 0, [])), (323, (7, 0, 4, 0, [])), (325, (43, 43, 368, 0, [])), (328, (10, 0, 0, 0, [])), (329, (56, 0, 34, 12, [9, 835])), (332, (6, 0, 1, 0, [])), (333, (59, 0, 0, 0, [])), (334, (4, 63, 142, 995, [])), (337, (68, 0, 126, 122, [2, 0, 4, 945, 946, 0, 50, 947])), (340, (43, 28, 368, 0, [])), (343, (10, 0, 0, 0, [])), (344, (56, 0, 59, 21, [9, 844])), (347, (6, 0, 2, 0, [])), (348, (59, 0, 0, 0, [])), (349, (10, 0, 0, 0, [])), (350, (56, 0, 34, 12, [9, 835])), (353, (6, 0, 1, 0, [])), (354, (59, 0, 0, 0, [])), (355, (34, 0, 0, 0, [])), (356, (31, 0, 0, 0, [])), (357, (3, 1, 1, 0, [])), (358, (28, 0, 0, 0, [])), (359, (3, 1, 1, 0, [])), (360, (35, 0, 0, 0, [])), (361, (44, 7, 368, 0, [])), (364, (0, 1, 0, 0, [])), (365, (42, 4, 369, 0, [])), (368, (0, 0, 0, 0, [])), (369, (73, 0, 0, 0, []))]
-- 97: M_isPut
def o_97 : List (Nat × Op) := [(0, (10, 0, 0, 0, [])), (1, (56, 0, 19, 7, [9, 830])), (4, (6, 0, 2, 0, [])), (5, (58, 0, 0, 0, [])), (6, (6, 0, 1, 0, [])), (7, (50, 22, 29, 0, [])), (10, (10, 0, 0, 0, [])), (11, (56, 0, 22, 8, [9, 831])), (14, (6, 0, 2, 0, [])), (15, (58, 0, 0, 0, [])), (16, (10, 0, 0, 0, [])), (17, (56, 0, 38, 14, [9, 837])), (20, (6, 0, 1, 0, [])), (21, (58, 0, 0, 0, [])), (22, (50, 7, 29, 0, [])), (25, (0, 1, 0, 0, [])), (26, (42, 4, 30, 0, [])), (29, (0, 0, 0, 0, [])), (30, (73, 0, 0, 0, []))]
-- 98: M_isSession
def o_98 : List (Nat × Op) := [(0, (6, 0, 1, 0, [])), (1, (45, 15, 16, 0, [])), (4, (6, 0, 1, 0, [])), (5, (10, 0, 0, 0, [])), (6, (56, 0, 102, 13, [9, 836])), (9, (52, 7, 16, 0, [])), (12, (0, 1, 0, 0, [])), (13, (42, 4, 17, 0, [])), (16, (0, 0, 0, 0, [])), (17, (73, 0, 0, 0, []))]
-- 99: M_isTaken
def o_99 : List (Nat × Op) := [(0, (10, 0, 0, 0, [])), (1, (56, 0, 25, 9, [9, 832])), (4, (6, 0, 2, 0, [])), (5, (58, 0, 0, 0, [])), (6, (6, 0, 1, 0, [])), (7, (50, 22, 29, 0, [])), (10, (10, 0, 0, 0, [])), (11, (56, 0, 28, 10, [9, 833])), (14, (6, 0, 2, 0, [])), (15, (58, 0, 0, 0, [])), (16, (10, 0, 0, 0, [])), (17, (56, 0, 38, 14, [9, 837])), (20, (6, 0, 1, 0, [])), (21, (58, 0, 0, 0, [])), (22, (50, 7, 29, 0, [])), (25, (0, 1, 0, 0, [])), (26, (42, 4, 30, 0, [])), (29, (0, 0, 0, 0, [])), (30, (73, 0, 0, 0, []))]
-- 100: M_keep
def o_100 : List (Nat × Op) := [(0, (10, 0, 0, 0, [])), (1, (6, 0, 1, 0, [])), (2, (67, 0, 106, 83, [1, 9, 1, 819, 821, 17, 50, 822])), (5, (0, 0, 0, 0, [])), (6, (13, 0, 4, 0, [])), (8, (7, 0, 4, 0, [])), (10, (6, 0, 2, 0, [])), (11, (52, 32, 43, 0, [])), (14, (10, 0, 0, 0, [])), (15, (56, 0, 74, 27, [9, 850])), (18, (0, 3, 0, 0, [])), (19, (6, 0, 1, 0, [])), (20, (21, 0, 0, 0, [])), (21, (7, 0, 4, 0, [])), (23, (19, 0, 0, 0, [])), (24, (10, 0, 0, 0, [])), (25, (56, 0, 7, 4, [9, 827])), (28, (10, 0, 0, 0, [])), (29, (56, 0, 99, 36, [9, 859])), (32, (7, 0, 4, 0, [])), (34, (58, 0, 0, 0, [])), (35, (58, 0, 0, 0, [])), (36, (62, 0, 0, 0, [])), (37, (18, 1, 4, 0, [])), (40, (42, (-32), 8, 0, [])), (43, (0, 0, 0, 0, [])), (44, (13, 0, 4, 0, [])), (46, (7, 0, 4, 0, [])), (48, (0, 4, 0, 0, [])), (49, (52, 71, 120, 0, [])), (52, (10, 0, 0, 0, [])), (53, (56, 0, 77, 28, [9, 851])), (56, (0, 4, 0, 0, [])), (57, (6, 0, 1, 0, [])), (58, (21, 0, 0, 0, [])), (59, (7, 0, 4, 0, [])), (61, (19, 0, 0, 0, [])), (62, (10, 0, 0, 0, [])), (63, (56, 0, 93, 34, [9, 857])), (66, (0, 4, 0, 0, [])), (67, (6, 0, 2, 0, [])), (68, (21, 0, 0, 0, [])), (69, (7, 0, 4, 0, [])), (71, (19, 0, 0, 0, [])), (72, (58, 0, 0, 0, [])), (73, (62, 0, 0, 0, [])), (74, (10, 0, 0, 0, [])), (75, (56, 0, 80, 29, [9, 852])), (78, (0, 4, 0, 0, [])), (79, (6, 0, 1, 0, [])), (80, (21, 0, 0, 0, [])), (81, (7, 0, 4, 0, [])), (83, (19, 0, 0, 0, [])), (84, (10, 0, 0, 0, [])), (85, (56, 0, 93, 34, [9, 857])), (88, (0, 4, 0, 0, [])), (89, (6, 0, 2, 0, [])), (90, (21, 0, 0, 0, [])), (91, (7, 0, 4, 0, [])), (93, (19, 0, 0, 0, [])), (94, (58, 0, 0, 0, [])), (95, (46, 7, 102, 0, [])), (98, (3, 0, 0, 0, [])), (99, (42, 14, 113, 0, [])), (102, (10, 0, 0, 0, [])), (103, (56, 0, 96, 35, [9, 858])), (106, (0, 4, 0, 0, [])), (107, (6, 0, 2, 0, [])), (108, (21, 0, 0, 0, [])), (109, (7, 0, 4, 0, [])), (111, (19, 0, 0, 0, [])), (112, (59, 0, 0, 0, [])), (113, (63, 0, 0, 0, [])), (114, (18, 1, 4, 0, [])), (117, (42, (-71), 46, 0, [])), (120, (0, 0, 0, 0, [])), (121, (13, 0, 4, 0, [])), (123, (7, 0, 4, 0, [])), (125, (6, 0, 2, 0, [])), (126, (52, 69, 195, 0, [])), (129, (6, 0, 3, 0, [])), (130, (43, 65, 195, 0, [])), (133, (10, 0, 0, 0, [])), (134, (10, 0, 0, 0, [])), (135, (56, 0, 74, 27, [9, 850])), (138, (0, 3, 0, 0, [])), (139, (6, 0, 1, 0, [])), (140, (21, 0, 0, 0, [])), (141, (7, 0, 4, 0, [])), (143, (19, 0, 0, 0, [])), (144, (58, 0, 0, 0, [])), (145, (67, 0, 161, 107, [1, 9, 1, 1020, 1022, 32, 50, 1023])), (148, (13, 0, 5, 0, [])), (150, (10, 0, 0, 0, [])), (151, (56, 0, 38, 14, [9, 837])), (154, (6, 0, 1, 0, [])), (155, (58, 0, 0, 0, [])), (156, (44, 12, 168, 0, [])), (159, (10, 0, 0, 0, [])), (160, (7, 0, 5, 0, [])), (162, (67, 0, 164, 110, [1, 9, 1, 1024, 1026, 33, 50, 1027])), (165, (42, 24, 189, 0, [])), (168, (10, 0, 0, 0, [])), (169, (56, 0, 25, 9, [9, 832])), (172, (7, 0, 5, 0, [])), (174, (6, 0, 1, 0, [])), (175, (62, 0, 0, 0, [])), (176, (10, 0, 0, 0, [])), (177, (56, 0, 28, 10, [9, 833])), (180, (7, 0, 5, 0, [])), (182, (10, 0, 0, 0, [])), (183, (56, 0, 38, 14, [9, 837])), (186, (6, 0, 1, 0, [])), (187, (58, 0, 0, 0, [])), (188, (62, 0, 0, 0, [])), (189, (18, 1, 4, 0, [])), (192, (42, (-69), 123, 0, [])), (195, (76, 0, 0, 0, []))]
-- 101: M_leave
def o_101 : List (Nat × Op) := [(0, (10, 0, 0, 0, [])), (1, (6, 0, 1, 0, [])), (2, (67, 0, 120, 117, [1, 9, 1, 956, 958, 20, 50, 959])), (5, (12, 0, 2, 0, [])), (6, (6, 0, 2, 0, [])), (7, (0, 1, 0, 0, [])), (8, (19, 0, 0, 0, [])), (9, (10, 0, 0, 0, [])), (10, (56, 0, 113, 22, [9, 845])), (13, (52, 23, 36, 0, [])), (16, (10, 0, 0, 0, [])), (17, (56, 0, 62, 23, [9, 846])), (20, (6, 0, 2, 0, [])), (21, (10, 0, 0, 0, [])), (22, (56, 0, 62, 23, [9, 846])), (25, (6, 0, 2, 0, [])), (26, (0, 1, 0, 0, [])), (27, (19, 0, 0, 0, [])), (28, (58, 0, 0, 0, [])), (29, (62, 0, 0, 0, [])), (30, (18, 1, 2, 0, [])), (33, (42, (-27), 6, 0, [])), (36, (10, 0, 0, 0, [])), (37, (36, 0, 0, 0, [])), (38, (56, 0, 113, 22, [9, 845])), (41, (0, 1, 0, 0, [])), (42, (20, 0, 0, 0, [])), (43, (57, 0, 113, 22, [9, 845])), (46, (76, 0, 0, 0, []))]
-- 102: M_next
def o_102 : List (Nat × Op) := [(0, (6, 0, 3, 0, [])), (1, (13, 0, 4, 0, [])), (3, (7, 0, 4, 0, [])), (5, (10, 0, 0, 0, [])), (6, (56, 0, 148, 1, [9, 824])), (9, (52, 81, 90, 0, [])), (12, (6, 0, 2, 0, [])), (13, (0, 1, 0, 0, [])), (14, (51, 14, 28, 0, [])), (17, (10, 0, 0, 0, [])), (18, (56, 0, 99, 36, [9, 859])), (21, (0, 0, 0, 0, [])), (22, (58, 0, 0, 0, [])), (23, (7, 0, 4, 0, [])), (25, (49, 23, 48, 0, [])), (28, (6, 0, 2, 0, [])), (29, (0, 2, 0, 0, [])), (30, (51, 14, 44, 0, [])), (33, (10, 0, 0, 0, [])), (34, (56, 0, 99, 36, [9, 859])), (37, (0, 1, 0, 0, [])), (38, (58, 0, 0, 0, [])), (39, (7, 0, 4, 0, [])), (41, (49, 7, 48, 0, [])), (44, (0, 1, 0, 0, [])), (45, (42, 4, 49, 0, [])), (48, (0, 0, 0, 0, [])), (49, (13, 0, 5, 0, [])), (51, (7, 0, 5, 0, [])), (53, (43, 31, 84, 0, [])), (56, (10, 0, 0, 0, [])), (57, (6, 0, 1, 0, [])), (58, (7, 0, 4, 0, [])), (60, (67, 0, 151, 114, [2, 9, 2, 1008, 1010, 29, 50, 1011])), (63, (43, 21, 84, 0, [])), (66, (10, 0, 0, 0, [])), (67, (7, 0, 4, 0, [])), (69, (0, 3, 0, 0, [])), (70, (6, 0, 1, 0, [])), (71, (21, 0, 0, 0, [])), (72, (6, 0, 2, 0, [])), (73, (19, 0, 0, 0, [])), (74, (6, 0, 2, 0, [])), (75, (67, 0, 154, 91, [3, 9, 3, 983, 985, 23, 50, 986])), (78, (43, 6, 84, 0, [])), (81, (7, 0, 4, 0, [])), (83, (72, 0, 0, 0, [])), (84, (18, 1, 4, 0, [])), (87, (42, (-84), 3, 0, [])), (90, (10, 0, 0, 0, [])), (91, (56, 0, 148, 1, [9, 824])), (94, (72, 0, 0, 0, []))]
-- 103: M_now
def o_103 : List (Nat × Op) := [(0, (10, 0, 0, 0, [])), (1, (0, 0, 0, 0, [])), (2, (57, 0, 110, 0, [9, 823])), (5, (10, 0, 0, 0, [])), (6, (56, 0, 183, 3, [9, 826])), (9, (72, 0, 0, 0, []))]
-- 104: M_open
def o_104 : List (Nat × Op) := [(0, (10, 0, 0, 0, [])), (1, (10, 0, 0, 0, [])), (2, (6, 0, 1, 0, [])), (3, (0, 1, 0, 0, [])), (4, (67, 0, 130, 90, [2, 9, 2, 948, 950, 18, 50, 951])), (7, (57, 0, 110, 0, [9, 823])), (10, (10, 0, 0, 0, [])), (11, (10, 0, 0, 0, [])), (12, (56, 0, 110, 0, [9, 823])), (15, (44, 17, 32, 0, [])), (18, (10, 0, 0, 0, [])), (19, (56, 0, 38, 14, [9, 837])), (22, (6, 0, 1, 0, [])), (23, (58, 0, 0, 0, [])), (24, (0, 4, 0, 0, [])), (25, (50, 7, 32, 0, [])), (28, (0, 3, 0, 0, [])), (29, (42, 7, 36, 0, [])), (32, (10, 0, 0, 0, [])), (33, (56, 0, 110, 0, [9, 823])), (36, (57, 0, 110, 0, [9, 823])), (39, (10, 0, 0, 0, [])), (40, (56, 0, 110, 0, [9, 823])), (43, (48, 5, 48, 0, [])), (46, (0, 0, 0, 0, [])), (47, (72, 0, 0, 0, [])), (48, (10, 0, 0, 0, [])), (49, (56, 0, 38, 14, [9, 837])), (52, (6, 0, 1, 0, [])), (53, (38, 0, 0, 0, [])), (54, (58, 0, 0, 0, [])), (55, (0, 1, 0, 0, [])), (56, (19, 0, 0, 0, [])), (57, (62, 0, 0, 0, [])), (58, (10, 0, 0, 0, [])), (59, (56, 0, 38, 14, [9, 837])), (62, (6, 0, 1, 0, [])), (63, (58, 0, 0, 0, [])), (64, (72, 0, 0, 0, []))]
-- 105: M_order
def o_105 : List (Nat × Op) := [(0, (10, 0, 0, 0, [])), (1, (10, 0, 0, 0, [])), (2, (6, 0, 1, 0, [])), (3, (10, 0, 0, 0, [])), (4, (6, 0, 1, 0, [])), (5, (0, 1, 0, 0, [])), (6, (67, 0, 198, 109, [2, 9, 2, 1032, 1034, 34, 50, 1035])), (9, (67, 0, 130, 90, [2, 9, 2, 948, 950, 18, 50, 951])), (12, (57, 0, 110, 0, [9, 823])), (15, (10, 0, 0, 0, [])), (16, (10, 0, 0, 0, [])), (17, (56, 0, 110, 0, [9, 823])), (20, (44, 16, 36, 0, [])), (23, (10, 0, 0, 0, [])), (24, (56, 0, 167, 30, [9, 853])), (27, (1, 6, 0, 0, [])), (29, (50, 7, 36, 0, [])), (32, (0, 4, 0, 0, [])), (33, (42, 7, 40, 0, [])), (36, (10, 0, 0, 0, [])), (37, (56, 0, 110, 0, [9, 823])), (40, (57, 0, 110, 0, [9, 823])), (43, (10, 0, 0, 0, [])), (44, (56, 0, 110, 0, [9, 823])), (47, (48, 5, 52, 0, [])), (50, (0, 0, 0, 0, [])), (51, (72, 0, 0, 0, [])), (52, (1, 12, 0, 0, [])), (54, (10, 0, 0, 0, [])), (55, (56, 0, 167, 30, [9, 853])), (58, (19, 0, 0, 0, [])), (59, (12, 0, 2, 0, [])), (60, (10, 0, 0, 0, [])), (61, (56, 0, 50, 18, [9, 841])), (64, (6, 0, 2, 0, [])), (65, (10, 0, 0, 0, [])), (66, (56, 0, 50, 18, [9, 841])), (69, (0, 3, 0, 0, [])), (70, (6, 0, 1, 0, [])), (71, (21, 0, 0, 0, [])), (72, (58, 0, 0, 0, [])), (73, (62, 0, 0, 0, [])), (74, (0, 0, 0, 0, [])), (75, (12, 0, 3, 0, [])), (76, (6, 0, 3, 0, [])), (77, (0, 4, 0, 0, [])), (78, (52, 72, 150, 0, [])), (81, (10, 0, 0, 0, [])), (82, (56, 0, 53, 19, [9, 842])), (85, (0, 4, 0, 0, [])), (86, (6, 0, 2, 0, [])), (87, (21, 0, 0, 0, [])), (88, (6, 0, 3, 0, [])), (89, (19, 0, 0, 0, [])), (90, (10, 0, 0, 0, [])), (91, (56, 0, 53, 19, [9, 842])), (94, (1, 12, 0, 0, [])), (96, (6, 0, 1, 0, [])), (97, (21, 0, 0, 0, [])), (98, (6, 0, 3, 0, [])), (99, (19, 0, 0, 0, [])), (100, (58, 0, 0, 0, [])), (101, (62, 0, 0, 0, [])), (102, (10, 0, 0, 0, [])), (103, (56, 0, 56, 20, [9, 843])), (106, (0, 4, 0, 0, [])), (107, (6, 0, 2, 0, [])), (108, (21, 0, 0, 0, [])), (109, (6, 0, 3, 0, [])), (110, (19, 0, 0, 0, [])), (111, (10, 0, 0, 0, [])), (112, (56, 0, 56, 20, [9, 843])), (115, (1, 12, 0, 0, [])), (117, (6, 0, 1, 0, [])), (118, (21, 0, 0, 0, [])), (119, (6, 0, 3, 0, [])), (120, (19, 0, 0, 0, [])), (121, (59, 0, 0, 0, [])), (122, (63, 0, 0, 0, [])), (123, (10, 0, 0, 0, [])), (124, (56, 0, 59, 21, [9, 844])), (127, (0, 4, 0, 0, [])), (128, (6, 0, 2, 0, [])), (129, (21, 0, 0, 0, [])), (130, (6, 0, 3, 0, [])), (131, (19, 0, 0, 0, [])), (132, (10, 0, 0, 0, [])), (133, (56, 0, 59, 21, [9, 844])), (136, (1, 12, 0, 0, [])), (138, (6, 0, 1, 0, [])), (139, (21, 0, 0, 0, [])), (140, (6, 0, 3, 0, [])), (141, (19, 0, 0, 0, [])), (142, (59, 0, 0, 0, [])), (143, (63, 0, 0, 0, [])), (144, (18, 1, 3, 0, [])), (147, (42, (-71), 76, 0, [])), (150, (10, 0, 0, 0, [])), (151, (36, 0, 0, 0, [])), (152, (56, 0, 167, 30, [9, 853])), (155, (0, 1, 0, 0, [])), (156, (19, 0, 0, 0, [])), (157, (57, 0, 167, 30, [9, 853])), (160, (10, 0, 0, 0, [])), (161, (56, 0, 167, 30, [9, 853])), (164, (0, 1, 0, 0, [])), (165, (20, 0, 0, 0, [])), (166, (72, 0, 0, 0, []))]
-- 106: M_outside
def o_106 : List (Nat × Op) := [(0, (10, 0, 0, 0, [])), (1, (56, 0, 19, 7, [9, 830])), (4, (6, 0, 1, 0, [])), (5, (0, (-1), 0, 0, [])), (6, (62, 0, 0, 0, [])), (7, (0, 0, 0, 0, [])), (8, (12, 0, 2, 0, [])), (9, (6, 0, 2, 0, [])), (10, (10, 0, 0, 0, [])), (11, (56, 0, 167, 30, [9, 853])), (14, (52, 82, 96, 0, [])), (17, (10, 0, 0, 0, [])), (18, (56, 0, 89, 33, [9, 856])), (21, (6, 0, 2, 0, [])), (22, (61, 0, 0, 0, [])), (23, (44, 67, 90, 0, [])), (26, (10, 0, 0, 0, [])), (27, (6, 0, 1, 0, [])), (28, (1, 12, 0, 0, [])), (30, (6, 0, 2, 0, [])), (31, (19, 0, 0, 0, [])), (32, (0, 0, 0, 0, [])), (33, (67, 0, 154, 91, [3, 9, 3, 983, 985, 23, 50, 986])), (36, (43, 54, 90, 0, [])), (39, (10, 0, 0, 0, [])), (40, (56, 0, 83, 31, [9, 854])), (43, (6, 0, 2, 0, [])), (44, (58, 0, 0, 0, [])), (45, (0, 5, 0, 0, [])), (46, (50, 13, 59, 0, [])), (49, (10, 0, 0, 0, [])), (50, (56, 0, 89, 33, [9, 856])), (53, (6, 0, 2, 0, [])), (54, (0, 1, 0, 0, [])), (55, (65, 0, 0, 0, [])), (56, (42, 34, 90, 0, [])), (59, (10, 0, 0, 0, [])), (60, (56, 0, 86, 32, [9, 855])), (63, (0, 5, 0, 0, [])), (64, (6, 0, 2, 0, [])), (65, (21, 0, 0, 0, [])), (66, (10, 0, 0, 0, [])), (67, (56, 0, 83, 31, [9, 854])), (70, (6, 0, 2, 0, [])), (71, (58, 0, 0, 0, [])), (72, (19, 0, 0, 0, [])), (73, (10, 0, 0, 0, [])), (74, (56, 0, 7, 4, [9, 827])), (77, (6, 0, 1, 0, [])), (78, (58, 0, 0, 0, [])), (79, (62, 0, 0, 0, [])), (80, (10, 0, 0, 0, [])), (81, (56, 0, 83, 31, [9, 854])), (84, (6, 0, 2, 0, [])), (85, (38, 0, 0, 0, [])), (86, (58, 0, 0, 0, [])), (87, (0, 1, 0, 0, [])), (88, (19, 0, 0, 0, [])), (89, (62, 0, 0, 0, [])), (90, (18, 1, 2, 0, [])), (93, (42, (-84), 9, 0, [])), (96, (76, 0, 0, 0, []))]
-- 107: M_place
def o_107 : List (Nat × Op) := [(0, (0, (-1), 0, 0, [])), (1, (12, 0, 2, 0, [])), (2, (0, 0, 0, 0, [])), (3, (12, 0, 3, 0, [])), (4, (6, 0, 3, 0, [])), (5, (10, 0, 0, 0, [])), (6, (56, 0, 148, 1, [9, 824])), (9, (52, 25, 34, 0, [])), (12, (10, 0, 0, 0, [])), (13, (56, 0, 7, 4, [9, 827])), (16, (6, 0, 3, 0, [])), (17, (58, 0, 0, 0, [])), (18, (6, 0, 1, 0, [])), (19, (50, 7, 26, 0, [])), (22, (6, 0, 3, 0, [])), (23, (42, 4, 27, 0, [])), (26, (6, 0, 2, 0, [])), (27, (12, 0, 2, 0, [])), (28, (18, 1, 3, 0, [])), (31, (42, (-27), 4, 0, [])), (34, (6, 0, 2, 0, [])), (35, (72, 0, 0, 0, []))]
-- 108: M_put
def o_108 : List (Nat × Op) := [(0, (10, 0, 0, 0, [])), (1, (10, 0, 0, 0, [])), (2, (6, 0, 1, 0, [])), (3, (10, 0, 0, 0, [])), (4, (6, 0, 1, 0, [])), (5, (67, 0, 116, 98, [1, 9, 1, 952, 954, 19, 50, 955])), (8, (43, 27, 35, 0, [])), (11, (10, 0, 0, 0, [])), (12, (56, 0, 41, 15, [9, 838])), (15, (6, 0, 1, 0, [])), (16, (58, 0, 0, 0, [])), (17, (48, 18, 35, 0, [])), (20, (6, 0, 2, 0, [])), (21, (33, 0, 0, 0, [])), (22, (4, 1000, 192, 974, [])), (25, (68, 0, 126, 122, [2, 0, 4, 945, 946, 0, 50, 947])), (28, (43, 7, 35, 0, [])), (31, (0, 1, 0, 0, [])), (32, (42, 4, 36, 0, [])), (35, (0, 0, 0, 0, [])), (36, (67, 0, 130, 90, [2, 9, 2, 948, 950, 18, 50, 951])), (39, (57, 0, 110, 0, [9, 823])), (42, (10, 0, 0, 0, [])), (43, (10, 0, 0, 0, [])), (44, (56, 0, 110, 0, [9, 823])), (47, (44, 16, 63, 0, [])), (50, (10, 0, 0, 0, [])), (51, (56, 0, 148, 1, [9, 824])), (54, (1, 20, 0, 0, [])), (56, (50, 7, 63, 0, [])), (59, (0, 4, 0, 0, [])), (60, (42, 7, 67, 0, [])), (63, (10, 0, 0, 0, [])), (64, (56, 0, 110, 0, [9, 823])), (67, (57, 0, 110, 0, [9, 823])), (70, (10, 0, 0, 0, [])), (71, (56, 0, 110, 0, [9, 823])), (74, (48, 7, 81, 0, [])), (77, (0, 0, 0, 0, [])), (78, (42, 9, 87, 0, [])), (81, (10, 0, 0, 0, [])), (82, (6, 0, 1, 0, [])), (83, (6, 0, 2, 0, [])), (84, (67, 0, 194, 81, [2, 9, 2, 975, 977, 21, 50, 978])), (87, (72, 0, 0, 0, []))]
-- 109: M_ready
def o_109 : List (Nat × Op) := [(0, (10, 0, 0, 0, [])), (1, (6, 0, 1, 0, [])), (2, (67, 0, 116, 98, [1, 9, 1, 952, 954, 19, 50, 955])), (5, (43, 16, 21, 0, [])), (8, (6, 0, 2, 0, [])), (9, (48, 12, 21, 0, [])), (12, (6, 0, 2, 0, [])), (13, (0, 4, 0, 0, [])), (14, (52, 7, 21, 0, [])), (17, (0, 1, 0, 0, [])), (18, (42, 4, 22, 0, [])), (21, (0, 0, 0, 0, [])), (22, (12, 0, 3, 0, [])), (23, (0, 0, 0, 0, [])), (24, (13, 0, 4, 0, [])), (26, (7, 0, 4, 0, [])), (28, (6, 0, 2, 0, [])), (29, (52, 33, 62, 0, [])), (32, (6, 0, 3, 0, [])), (33, (43, 29, 62, 0, [])), (36, (10, 0, 0, 0, [])), (37, (56, 0, 50, 18, [9, 841])), (40, (0, 3, 0, 0, [])), (41, (6, 0, 1, 0, [])), (42, (21, 0, 0, 0, [])), (43, (7, 0, 4, 0, [])), (45, (19, 0, 0, 0, [])), (46, (58, 0, 0, 0, [])), (47, (48, 7, 54, 0, [])), (50, (0, 1, 0, 0, [])), (51, (42, 4, 55, 0, [])), (54, (0, 0, 0, 0, [])), (55, (12, 0, 3, 0, [])), (56, (18, 1, 4, 0, [])), (59, (42, (-33), 26, 0, [])), (62, (6, 0, 3, 0, [])), (63, (73, 0, 0, 0, []))]
-- 110: M_remove
def o_110 : List (Nat × Op) := [(0, (6, 0, 1, 0, [])), (1, (12, 0, 2, 0, [])), (2, (6, 0, 2, 0, [])), (3, (0, 1, 0, 0, [])), (4, (19, 0, 0, 0, [])), (5, (10, 0, 0, 0, [])), (6, (56, 0, 148, 1, [9, 824])), (9, (52, 154, 163, 0, [])), (12, (10, 0, 0, 0, [])), (13, (56, 0, 7, 4, [9, 827])), (16, (6, 0, 2, 0, [])), (17, (10, 0, 0, 0, [])), (18, (56, 0, 7, 4, [9, 827])), (21, (6, 0, 2, 0, [])), (22, (0, 1, 0, 0, [])), (23, (19, 0, 0, 0, [])), (24, (58, 0, 0, 0, [])), (25, (62, 0, 0, 0, [])), (26, (10, 0, 0, 0, [])), (27, (56, 0, 13, 5, [9, 828])), (30, (6, 0, 2, 0, [])), (31, (10, 0, 0, 0, [])), (32, (56, 0, 13, 5, [9, 828])), (35, (6, 0, 2, 0, [])), (36, (0, 1, 0, 0, [])), (37, (19, 0, 0, 0, [])), (38, (58, 0, 0, 0, [])), (39, (62, 0, 0, 0, [])), (40, (10, 0, 0, 0, [])), (41, (56, 0, 16, 6, [9, 829])), (44, (6, 0, 2, 0, [])), (45, (10, 0, 0, 0, [])), (46, (56, 0, 16, 6, [9, 829])), (49, (6, 0, 2, 0, [])), (50, (0, 1, 0, 0, [])), (51, (19, 0, 0, 0, [])), (52, (58, 0, 0, 0, [])), (53, (62, 0, 0, 0, [])), (54, (10, 0, 0, 0, [])), (55, (56, 0, 19, 7, [9, 830])), (58, (6, 0, 2, 0, [])), (59, (10, 0, 0, 0, [])), (60, (56, 0, 19, 7, [9, 830])), (63, (6, 0, 2, 0, [])), (64, (0, 1, 0, 0, [])), (65, (19, 0, 0, 0, [])), (66, (58, 0, 0, 0, [])), (67, (62, 0, 0, 0, [])), (68, (10, 0, 0, 0, [])), (69, (56, 0, 22, 8, [9, 831])), (72, (6, 0, 2, 0, [])), (73, (10, 0, 0, 0, [])), (74, (56, 0, 22, 8, [9, 831])), (77, (6, 0, 2, 0, [])), (78, (0, 1, 0, 0, [])), (79, (19, 0, 0, 0, [])), (80, (58, 0, 0, 0, [])), (81, (62, 0, 0, 0, [])), (82, (10, 0, 0, 0, [])), (83, (56, 0, 25, 9, [9, 832])), (86, (6, 0, 2, 0, [])), (87, (10, 0, 0, 0, [])), (88, (56, 0, 25, 9, [9, 832])), (91, (6, 0, 2, 0, [])), (92, (0, 1, 0, 0, [])), (93, (19, 0, 0, 0, [])), (94, (58, 0, 0, 0, [])), (95, (62, 0, 0, 0, [])), (96, (10, 0, 0, 0, [])), (97, (56, 0, 28, 10, [9, 833])), (100, (6, 0, 2, 0, [])), (101, (10, 0, 0, 0, [])), (102, (56, 0, 28, 10, [9, 833])), (105, (6, 0, 2, 0, [])), (106, (0, 1, 0, 0, [])), (107, (19, 0, 0, 0, [])), (108, (58, 0, 0, 0, [])), (109, (62, 0, 0, 0, [])), (110, (0, 4, 0, 0, [])), (111, (6, 0, 2, 0, [])), (112, (21, 0, 0, 0, [])), (113, (12, 0, 3, 0, [])), (114, (6, 0, 3, 0, [])), (115, (0, 4, 0, 0, [])), (116, (6, 0, 2, 0, [])), (117, (21, 0, 0, 0, [])), (118, (0, 4, 0, 0, [])), (119, (19, 0, 0, 0, [])), (120, (52, 37, 157, 0, [])), (123, (10, 0, 0, 0, [])), (124, (56, 0, 31, 11, [9, 834])), (127, (6, 0, 3, 0, [])), (128, (10, 0, 0, 0, [])), (129, (56, 0, 31, 11, [9, 834])), (132, (6, 0, 3, 0, [])), (133, (0, 4, 0, 0, [])), (134, (19, 0, 0, 0, [])), (135, (58, 0, 0, 0, [])), (136, (62, 0, 0, 0, [])), (137, (10, 0, 0, 0, [])), (138, (56, 0, 34, 12, [9, 835])), (141, (6, 0, 3, 0, [])), (142, (10, 0, 0, 0, [])), (143, (56, 0, 34, 12, [9, 835])), (146, (6, 0, 3, 0, [])), (147, (0, 4, 0, 0, [])), (148, (19, 0, 0, 0, [])), (149, (59, 0, 0, 0, [])), (150, (63, 0, 0, 0, [])), (151, (18, 1, 3, 0, [])), (154, (42, (-40), 114, 0, [])), (157, (18, 1, 2, 0, [])), (160, (42, (-158), 2, 0, [])), (163, (10, 0, 0, 0, [])), (164, (36, 0, 0, 0, [])), (165, (56, 0, 148, 1, [9, 824])), (168, (0, 1, 0, 0, [])), (169, (20, 0, 0, 0, [])), (170, (57, 0, 148, 1, [9, 824])), (173, (76, 0, 0, 0, []))]
-- 111: M_renew
def o_111 : List (Nat × Op) := [(0, (10, 0, 0, 0, [])), (1, (10, 0, 0, 0, [])), (2, (6, 0, 1, 0, [])), (3, (6, 0, 3, 0, [])), (4, (33, 0, 0, 0, [])), (5, (4, 1000, 192, 974, [])), (8, (68, 0, 126, 122, [2, 0, 4, 945, 946, 0, 50, 947])), (11, (67, 0, 130, 90, [2, 9, 2, 948, 950, 18, 50, 951])), (14, (57, 0, 110, 0, [9, 823])), (17, (10, 0, 0, 0, [])), (18, (56, 0, 110, 0, [9, 823])), (21, (48, 5, 26, 0, [])), (24, (0, 0, 0, 0, [])), (25, (73, 0, 0, 0, [])), (26, (10, 0, 0, 0, [])), (27, (6, 0, 2, 0, [])), (28, (67, 0, 161, 107, [1, 9, 1, 1020, 1022, 32, 50, 1023])), (31, (13, 0, 4, 0, [])), (33, (7, 0, 4, 0, [])), (35, (45, 13, 48, 0, [])), (38, (10, 0, 0, 0, [])), (39, (6, 0, 1, 0, [])), (40, (7, 0, 4, 0, [])), (42, (67, 0, 151, 114, [2, 9, 2, 1008, 1010, 29, 50, 1011])), (45, (44, 5, 50, 0, [])), (48, (0, 0, 0, 0, [])), (49, (73, 0, 0, 0, [])), (50, (10, 0, 0, 0, [])), (51, (56, 0, 16, 6, [9, 829])), (54, (7, 0, 4, 0, [])), (56, (6, 0, 3, 0, [])), (57, (44, 7, 64, 0, [])), (60, (0, 0, 0, 0, [])), (61, (42, 9, 70, 0, [])), (64, (10, 0, 0, 0, [])), (65, (56, 0, 183, 3, [9, 826])), (68, (6, 0, 3, 0, [])), (69, (19, 0, 0, 0, [])), (70, (62, 0, 0, 0, [])), (71, (0, 1, 0, 0, [])), (72, (73, 0, 0, 0, []))]
-- 112: M_search
def o_112 : List (Nat × Op) := [(0, (0, 0, 0, 0, [])), (1, (12, 0, 3, 0, [])), (2, (10, 0, 0, 0, [])), (3, (56, 0, 99, 36, [9, 859])), (6, (0, 0, 0, 0, [])), (7, (0, (-1), 0, 0, [])), (8, (62, 0, 0, 0, [])), (9, (6, 0, 3, 0, [])), (10, (45, 64, 74, 0, [])), (13, (10, 0, 0, 0, [])), (14, (56, 0, 99, 36, [9, 859])), (17, (6, 0, 3, 0, [])), (18, (10, 0, 0, 0, [])), (19, (6, 0, 1, 0, [])), (20, (6, 0, 3, 0, [])), (21, (10, 0, 0, 0, [])), (22, (56, 0, 99, 36, [9, 859])), (25, (6, 0, 3, 0, [])), (26, (58, 0, 0, 0, [])), (27, (0, 1, 0, 0, [])), (28, (19, 0, 0, 0, [])), (29, (67, 0, 157, 102, [3, 9, 3, 1004, 1006, 28, 50, 1007])), (32, (62, 0, 0, 0, [])), (33, (10, 0, 0, 0, [])), (34, (56, 0, 99, 36, [9, 859])), (37, (6, 0, 3, 0, [])), (38, (58, 0, 0, 0, [])), (39, (10, 0, 0, 0, [])), (40, (56, 0, 148, 1, [9, 824])), (43, (50, 9, 52, 0, [])), (46, (18, (-1), 3, 0, [])), (49, (42, (-40), 9, 0, [])), (52, (6, 0, 3, 0, [])), (53, (6, 0, 2, 0, [])), (54, (0, 1, 0, 0, [])), (55, (20, 0, 0, 0, [])), (56, (50, 5, 61, 0, [])), (59, (0, 1, 0, 0, [])), (60, (73, 0, 0, 0, [])), (61, (18, 1, 3, 0, [])), (64, (10, 0, 0, 0, [])), (65, (56, 0, 99, 36, [9, 859])), (68, (6, 0, 3, 0, [])), (69, (0, (-1), 0, 0, [])), (70, (62, 0, 0, 0, [])), (71, (42, (-62), 9, 0, [])), (74, (0, 0, 0, 0, [])), (75, (73, 0, 0, 0, []))]
-- 113: M_seen
def o_113 : List (Nat × Op) := [(0, (10, 0, 0, 0, [])), (1, (10, 0, 0, 0, [])), (2, (6, 0, 1, 0, [])), (3, (67, 0, 116, 98, [1, 9, 1, 952, 954, 19, 50, 955])), (6, (43, 7, 13, 0, [])), (9, (0, 0, 0, 0, [])), (10, (42, 4, 14, 0, [])), (13, (0, 1, 0, 0, [])), (14, (57, 0, 110, 0, [9, 823])), (17, (10, 0, 0, 0, [])), (18, (56, 0, 110, 0, [9, 823])), (21, (48, 5, 26, 0, [])), (24, (0, 0, 0, 0, [])), (25, (72, 0, 0, 0, [])), (26, (6, 0, 2, 0, [])), (27, (12, 0, 3, 0, [])), (28, (0, 0, 0, 0, [])), (29, (13, 0, 4, 0, [])), (31, (7, 0, 4, 0, [])), (33, (10, 0, 0, 0, [])), (34, (56, 0, 148, 1, [9, 824])), (37, (52, 37, 74, 0, [])), (40, (10, 0, 0, 0, [])), (41, (6, 0, 1, 0, [])), (42, (7, 0, 4, 0, [])), (44, (67, 0, 151, 114, [2, 9, 2, 1008, 1010, 29, 50, 1011])), (47, (44, 6, 53, 0, [])), (50, (42, 18, 68, 0, [])), (53, (6, 0, 3, 0, [])), (54, (44, 11, 65, 0, [])), (57, (10, 0, 0, 0, [])), (58, (56, 0, 7, 4, [9, 827])), (61, (7, 0, 4, 0, [])), (63, (58, 0, 0, 0, [])), (64, (72, 0, 0, 0, [])), (65, (18, (-1), 3, 0, [])), (68, (18, 1, 4, 0, [])), (71, (42, (-40), 31, 0, [])), (74, (0, (-1), 0, 0, [])), (75, (72, 0, 0, 0, []))]
-- 114: M_sees
def o_114 : List (Nat × Op) := [(0, (10, 0, 0, 0, [])), (1, (56, 0, 25, 9, [9, 832])), (4, (6, 0, 2, 0, [])), (5, (58, 0, 0, 0, [])), (6, (46, 26, 32, 0, [])), (9, (10, 0, 0, 0, [])), (10, (56, 0, 19, 7, [9, 830])), (13, (6, 0, 2, 0, [])), (14, (58, 0, 0, 0, [])), (15, (45, 13, 28, 0, [])), (18, (10, 0, 0, 0, [])), (19, (56, 0, 19, 7, [9, 830])), (22, (6, 0, 2, 0, [])), (23, (58, 0, 0, 0, [])), (24, (6, 0, 1, 0, [])), (25, (50, 7, 32, 0, [])), (28, (0, 1, 0, 0, [])), (29, (42, 4, 33, 0, [])), (32, (0, 0, 0, 0, [])), (33, (73, 0, 0, 0, []))]
-- 115: M_serve
def o_115 : List (Nat × Op) := [(0, (0, 0, 0, 0, [])), (1, (12, 0, 1, 0, [])), (2, (6, 0, 1, 0, [])), (3, (10, 0, 0, 0, [])), (4, (56, 0, 113, 22, [9, 845])), (7, (52, 73, 80, 0, [])), (10, (10, 0, 0, 0, [])), (11, (56, 0, 62, 23, [9, 846])), (14, (6, 0, 1, 0, [])), (15, (58, 0, 0, 0, [])), (16, (12, 0, 2, 0, [])), (17, (10, 0, 0, 0, [])), (18, (6, 0, 2, 0, [])), (19, (10, 0, 0, 0, [])), (20, (56, 0, 65, 24, [9, 847])), (23, (6, 0, 2, 0, [])), (24, (58, 0, 0, 0, [])), (25, (67, 0, 170, 112, [2, 9, 2, 1000, 1002, 27, 50, 1003])), (28, (43, 46, 74, 0, [])), (31, (10, 0, 0, 0, [])), (32, (6, 0, 2, 0, [])), (33, (67, 0, 173, 101, [1, 9, 1, 1012, 1014, 30, 50, 1015])), (36, (10, 0, 0, 0, [])), (37, (56, 0, 71, 26, [9, 849])), (40, (6, 0, 2, 0, [])), (41, (0, 2, 0, 0, [])), (42, (62, 0, 0, 0, [])), (43, (10, 0, 0, 0, [])), (44, (6, 0, 2, 0, [])), (45, (10, 0, 0, 0, [])), (46, (56, 0, 65, 24, [9, 847])), (49, (6, 0, 2, 0, [])), (50, (58, 0, 0, 0, [])), (51, (10, 0, 0, 0, [])), (52, (56, 0, 68, 25, [9, 848])), (55, (6, 0, 2, 0, [])), (56, (58, 0, 0, 0, [])), (57, (0, 1, 0, 0, [])), (58, (23, 0, 0, 0, [])), (59, (0, 1, 0, 0, [])), (60, (50, 7, 67, 0, [])), (63, (0, 1, 0, 0, [])), (64, (42, 4, 68, 0, [])), (67, (0, 0, 0, 0, [])), (68, (67, 0, 176, 100, [3, 9, 3, 1016, 1018, 31, 50, 1019])), (71, (42, 6, 77, 0, [])), (74, (18, 1, 1, 0, [])), (77, (42, (-75), 2, 0, [])), (80, (76, 0, 0, 0, []))]
-- 116: M_session
def o_116 : List (Nat × Op) := [(0, (10, 0, 0, 0, [])), (1, (10, 0, 0, 0, [])), (2, (6, 0, 1, 0, [])), (3, (67, 0, 116, 98, [1, 9, 1, 952, 954, 19, 50, 955])), (6, (43, 7, 13, 0, [])), (9, (0, 0, 0, 0, [])), (10, (42, 4, 14, 0, [])), (13, (0, 1, 0, 0, [])), (14, (57, 0, 110, 0, [9, 823])), (17, (10, 0, 0, 0, [])), (18, (56, 0, 110, 0, [9, 823])), (21, (48, 5, 26, 0, [])), (24, (0, 0, 0, 0, [])), (25, (72, 0, 0, 0, [])), (26, (6, 0, 2, 0, [])), (27, (55, 93, 0, 120, [41, 68, 87, 94, 101, 101, 101, 114])), (68, (10, 0, 0, 0, [])), (69, (6, 0, 1, 0, [])), (70, (67, 0, 120, 117, [1, 9, 1, 956, 958, 20, 50, 959])), (73, (45, 7, 80, 0, [])), (76, (0, 1, 0, 0, [])), (77, (42, 9, 86, 0, [])), (80, (10, 0, 0, 0, [])), (81, (56, 0, 71, 26, [9, 849])), (84, (6, 0, 1, 0, [])), (85, (58, 0, 0, 0, [])), (86, (72, 0, 0, 0, [])), (87, (10, 0, 0, 0, [])), (88, (56, 0, 38, 14, [9, 837])), (91, (6, 0, 1, 0, [])), (92, (58, 0, 0, 0, [])), (93, (72, 0, 0, 0, [])), (94, (10, 0, 0, 0, [])), (95, (56, 0, 41, 15, [9, 838])), (98, (6, 0, 1, 0, [])), (99, (58, 0, 0, 0, [])), (100, (72, 0, 0, 0, [])), (101, (10, 0, 0, 0, [])), (102, (56, 0, 50, 18, [9, 841])), (105, (0, 3, 0, 0, [])), (106, (6, 0, 1, 0, [])), (107, (21, 0, 0, 0, [])), (108, (6, 0, 2, 0, [])), (109, (19, 0, 0, 0, [])), (110, (0, 3, 0, 0, [])), (111, (20, 0, 0, 0, [])), (112, (58, 0, 0, 0, [])), (113, (72, 0, 0, 0, [])), (114, (10, 0, 0, 0, [])), (115, (6, 0, 1, 0, [])), (116, (67, 0, 120, 117, [1, 9, 1, 956, 958, 20, 50, 959])), (119, (72, 0, 0, 0, [])), (120, (0, (-1), 0, 0, [])), (121, (72, 0, 0, 0, []))]
-- 117: M_standing
def o_117 : List (Nat × Op) := [(0, (0, (-1), 0, 0, [])), (1, (12, 0, 2, 0, [])), (2, (0, 0, 0, 0, [])), (3, (12, 0, 3, 0, [])), (4, (6, 0, 3, 0, [])), (5, (10, 0, 0, 0, [])), (6, (56, 0, 113, 22, [9, 845])), (9, (52, 25, 34, 0, [])), (12, (10, 0, 0, 0, [])), (13, (56, 0, 62, 23, [9, 846])), (16, (6, 0, 3, 0, [])), (17, (58, 0, 0, 0, [])), (18, (6, 0, 1, 0, [])), (19, (50, 7, 26, 0, [])), (22, (6, 0, 3, 0, [])), (23, (42, 4, 27, 0, [])), (26, (6, 0, 2, 0, [])), (27, (12, 0, 2, 0, [])), (28, (18, 1, 3, 0, [])), (31, (42, (-27), 4, 0, [])), (34, (6, 0, 2, 0, [])), (35, (72, 0, 0, 0, []))]
-- 118: M_stop
def o_118 : List (Nat × Op) := [(0, (10, 0, 0, 0, [])), (1, (10, 0, 0, 0, [])), (2, (6, 0, 1, 0, [])), (3, (67, 0, 116, 98, [1, 9, 1, 952, 954, 19, 50, 955])), (6, (43, 7, 13, 0, [])), (9, (0, 0, 0, 0, [])), (10, (42, 4, 14, 0, [])), (13, (0, 1, 0, 0, [])), (14, (57, 0, 110, 0, [9, 823])), (17, (10, 0, 0, 0, [])), (18, (56, 0, 110, 0, [9, 823])), (21, (47, 11, 32, 0, [])), (24, (10, 0, 0, 0, [])), (25, (6, 0, 1, 0, [])), (26, (67, 0, 120, 117, [1, 9, 1, 956, 958, 20, 50, 959])), (29, (46, 5, 34, 0, [])), (32, (0, 0, 0, 0, [])), (33, (73, 0, 0, 0, [])), (34, (10, 0, 0, 0, [])), (35, (6, 0, 1, 0, [])), (36, (67, 0, 173, 101, [1, 9, 1, 1012, 1014, 30, 50, 1015])), (39, (0, 1, 0, 0, [])), (40, (73, 0, 0, 0, []))]
-- 119: M_swap
def o_119 : List (Nat × Op) := [(0, (10, 0, 0, 0, [])), (1, (10, 0, 0, 0, [])), (2, (6, 0, 1, 0, [])), (3, (10, 0, 0, 0, [])), (4, (6, 0, 1, 0, [])), (5, (0, 1, 0, 0, [])), (6, (67, 0, 198, 109, [2, 9, 2, 1032, 1034, 34, 50, 1035])), (9, (43, 16, 25, 0, [])), (12, (10, 0, 0, 0, [])), (13, (56, 0, 41, 15, [9, 838])), (16, (6, 0, 1, 0, [])), (17, (58, 0, 0, 0, [])), (18, (48, 7, 25, 0, [])), (21, (0, 1, 0, 0, [])), (22, (42, 4, 26, 0, [])), (25, (0, 0, 0, 0, [])), (26, (67, 0, 130, 90, [2, 9, 2, 948, 950, 18, 50, 951])), (29, (57, 0, 110, 0, [9, 823])), (32, (10, 0, 0, 0, [])), (33, (56, 0, 110, 0, [9, 823])), (36, (48, 5, 41, 0, [])), (39, (0, 0, 0, 0, [])), (40, (72, 0, 0, 0, [])), (41, (10, 0, 0, 0, [])), (42, (6, 0, 1, 0, [])), (43, (0, 1, 0, 0, [])), (44, (67, 0, 170, 112, [2, 9, 2, 1000, 1002, 27, 50, 1003])), (47, (12, 0, 2, 0, [])), (48, (10, 0, 0, 0, [])), (49, (6, 0, 2, 0, [])), (50, (43, 25, 75, 0, [])), (53, (10, 0, 0, 0, [])), (54, (56, 0, 38, 14, [9, 837])), (57, (6, 0, 1, 0, [])), (58, (58, 0, 0, 0, [])), (59, (48, 16, 75, 0, [])), (62, (10, 0, 0, 0, [])), (63, (56, 0, 148, 1, [9, 824])), (66, (1, 20, 0, 0, [])), (68, (50, 7, 75, 0, [])), (71, (0, 4, 0, 0, [])), (72, (42, 4, 76, 0, [])), (75, (0, 0, 0, 0, [])), (76, (57, 0, 110, 0, [9, 823])), (79, (10, 0, 0, 0, [])), (80, (56, 0, 110, 0, [9, 823])), (83, (48, 5, 88, 0, [])), (86, (0, 0, 0, 0, [])), (87, (72, 0, 0, 0, [])), (88, (10, 0, 0, 0, [])), (89, (56, 0, 71, 26, [9, 849])), (92, (6, 0, 1, 0, [])), (93, (0, 0, 0, 0, [])), (94, (62, 0, 0, 0, [])), (95, (10, 0, 0, 0, [])), (96, (6, 0, 1, 0, [])), (97, (67, 0, 106, 83, [1, 9, 1, 819, 821, 17, 50, 822])), (100, (6, 0, 2, 0, [])), (101, (44, 5, 106, 0, [])), (104, (0, (-1), 0, 0, [])), (105, (72, 0, 0, 0, [])), (106, (10, 0, 0, 0, [])), (107, (6, 0, 1, 0, [])), (108, (0, 1, 0, 0, [])), (109, (0, 1, 0, 0, [])), (110, (67, 0, 176, 100, [3, 9, 3, 1016, 1018, 31, 50, 1019])), (113, (10, 0, 0, 0, [])), (114, (6, 0, 1, 0, [])), (115, (0, 0, 0, 0, [])), (116, (67, 0, 194, 81, [2, 9, 2, 975, 977, 21, 50, 978])), (119, (72, 0, 0, 0, []))]
-- 120: M_thrown
def o_120 : List (Nat × Op) := [(0, (10, 0, 0, 0, [])), (1, (56, 0, 110, 0, [9, 823])), (4, (72, 0, 0, 0, []))]
-- 121: M_tick
def o_121 : List (Nat × Op) := [(0, (10, 0, 0, 0, [])), (1, (6, 0, 1, 0, [])), (2, (33, 0, 0, 0, [])), (3, (4, 1000, 192, 974, [])), (6, (68, 0, 126, 122, [2, 0, 4, 945, 946, 0, 50, 947])), (9, (43, 7, 16, 0, [])), (12, (0, 0, 0, 0, [])), (13, (42, 4, 17, 0, [])), (16, (0, 1, 0, 0, [])), (17, (57, 0, 110, 0, [9, 823])), (20, (10, 0, 0, 0, [])), (21, (56, 0, 110, 0, [9, 823])), (24, (48, 5, 29, 0, [])), (27, (0, 0, 0, 0, [])), (28, (72, 0, 0, 0, [])), (29, (10, 0, 0, 0, [])), (30, (10, 0, 0, 0, [])), (31, (56, 0, 183, 3, [9, 826])), (34, (6, 0, 1, 0, [])), (35, (19, 0, 0, 0, [])), (36, (57, 0, 183, 3, [9, 826])), (39, (0, 0, 0, 0, [])), (40, (12, 0, 2, 0, [])), (41, (0, 0, 0, 0, [])), (42, (12, 0, 3, 0, [])), (43, (10, 0, 0, 0, [])), (44, (67, 0, 210, 87, [0, 9, 0, 1088, 1090, 38, 50, 1091])), (47, (13, 0, 4, 0, [])), (49, (7, 0, 4, 0, [])), (51, (45, 130, 181, 0, [])), (54, (10, 0, 0, 0, [])), (55, (56, 0, 7, 4, [9, 827])), (58, (7, 0, 4, 0, [])), (60, (58, 0, 0, 0, [])), (61, (13, 0, 5, 0, [])), (63, (10, 0, 0, 0, [])), (64, (56, 0, 25, 9, [9, 832])), (67, (7, 0, 4, 0, [])), (69, (58, 0, 0, 0, [])), (70, (13, 0, 6, 0, [])), (72, (10, 0, 0, 0, [])), (73, (56, 0, 28, 10, [9, 833])), (76, (7, 0, 4, 0, [])), (78, (58, 0, 0, 0, [])), (79, (13, 0, 7, 0, [])), (81, (7, 0, 6, 0, [])), (83, (45, 39, 122, 0, [])), (86, (10, 0, 0, 0, [])), (87, (56, 0, 38, 14, [9, 837])), (90, (7, 0, 6, 0, [])), (92, (58, 0, 0, 0, [])), (93, (7, 0, 7, 0, [])), (95, (51, 27, 122, 0, [])), (98, (10, 0, 0, 0, [])), (99, (7, 0, 6, 0, [])), (101, (67, 0, 207, 86, [1, 9, 1, 1076, 1078, 37, 50, 1079])), (104, (1, 100, 0, 0, [])), (106, (52, 7, 113, 0, [])), (109, (6, 0, 3, 0, [])), (110, (43, 7, 117, 0, [])), (113, (0, 1, 0, 0, [])), (114, (42, 4, 118, 0, [])), (117, (0, 0, 0, 0, [])), (118, (12, 0, 3, 0, [])), (119, (42, (-38), 81, 0, [])), (122, (7, 0, 6, 0, [])), (124, (45, 26, 150, 0, [])), (127, (10, 0, 0, 0, [])), (128, (7, 0, 6, 0, [])), (130, (67, 0, 120, 117, [1, 9, 1, 956, 958, 20, 50, 959])), (133, (45, 17, 150, 0, [])), (136, (10, 0, 0, 0, [])), (137, (7, 0, 6, 0, [])), (139, (67, 0, 173, 101, [1, 9, 1, 1012, 1014, 30, 50, 1015])), (142, (10, 0, 0, 0, [])), (143, (56, 0, 71, 26, [9, 849])), (146, (7, 0, 6, 0, [])), (148, (0, 3, 0, 0, [])), (149, (62, 0, 0, 0, [])), (150, (10, 0, 0, 0, [])), (151, (7, 0, 5, 0, [])), (153, (67, 0, 161, 107, [1, 9, 1, 1020, 1022, 32, 50, 1023])), (156, (45, 13, 169, 0, [])), (159, (10, 0, 0, 0, [])), (160, (10, 0, 0, 0, [])), (161, (7, 0, 5, 0, [])), (163, (67, 0, 161, 107, [1, 9, 1, 1020, 1022, 32, 50, 1023])), (166, (67, 0, 164, 110, [1, 9, 1, 1024, 1026, 33, 50, 1027])), (169, (18, 1, 2, 0, [])), (172, (10, 0, 0, 0, [])), (173, (67, 0, 210, 87, [0, 9, 0, 1088, 1090, 38, 50, 1091])), (176, (13, 0, 4, 0, [])), (178, (42, (-129), 49, 0, [])), (181, (6, 0, 3, 0, [])), (182, (43, 7, 189, 0, [])), (185, (10, 0, 0, 0, [])), (186, (67, 0, 189, 115, [0, 9, 0, 996, 998, 26, 50, 999])), (189, (6, 0, 2, 0, [])), (190, (72, 0, 0, 0, []))]
-- 122: M_within
def o_122 : List (Nat × Op) := [(0, (8, 0, 0, 0, [])), (1, (3, 0, 0, 0, [])), (2, (35, 0, 0, 0, [])), (3, (45, 13, 16, 0, [])), (6, (8, 0, 0, 0, [])), (7, (8, 0, 2, 0, [])), (8, (35, 0, 0, 0, [])), (9, (47, 7, 16, 0, [])), (12, (0, 1, 0, 0, [])), (13, (42, 4, 17, 0, [])), (16, (0, 0, 0, 0, [])), (17, (73, 0, 0, 0, []))]
-- 123: abandon
def o_123 : List (Nat × Op) := [(0, (10, 0, 2, 0, [])), (1, (0, 0, 0, 0, [])), (2, (10, 0, 0, 0, [])), (3, (6, 0, 1, 0, [])), (4, (67, 0, 60, 0, [1, 0, 1, 743, 744, 745, 40, 746])), (7, (33, 0, 0, 0, [])), (8, (63, 0, 0, 0, [])), (9, (42, 9, 18, 0, [])), (12, (16, 0, 3, 0, [])), (13, (0, 1, 0, 0, [])), (14, (72, 0, 0, 0, [])), (15, (16, 0, 3, 0, [])), (16, (0, 2, 0, 0, [])), (17, (72, 0, 0, 0, [])), (18, (0, 0, 0, 0, [])), (19, (72, 0, 0, 0, []))]
-- 124: collect
def o_124 : List (Nat × Op) := [(0, (10, 0, 2, 0, [])), (1, (0, 0, 0, 0, [])), (2, (10, 0, 0, 0, [])), (3, (6, 0, 1, 0, [])), (4, (67, 0, 51, 3, [1, 0, 1, 692, 693, 694, 40, 695])), (7, (33, 0, 0, 0, [])), (8, (63, 0, 0, 0, [])), (9, (42, 6, 15, 0, [])), (12, (16, 0, 3, 0, [])), (13, (0, 1, 0, 0, [])), (14, (72, 0, 0, 0, [])), (15, (0, 0, 0, 0, [])), (16, (72, 0, 0, 0, []))]
-- 125: commit
def o_125 : List (Nat × Op) := [(0, (10, 0, 2, 0, [])), (1, (0, 0, 0, 0, [])), (2, (10, 0, 0, 0, [])), (3, (6, 0, 1, 0, [])), (4, (67, 0, 57, 5, [1, 0, 1, 711, 712, 713, 40, 714])), (7, (33, 0, 0, 0, [])), (8, (63, 0, 0, 0, [])), (9, (42, 9, 18, 0, [])), (12, (16, 0, 3, 0, [])), (13, (0, 1, 0, 0, [])), (14, (72, 0, 0, 0, [])), (15, (16, 0, 3, 0, [])), (16, (0, 2, 0, 0, [])), (17, (72, 0, 0, 0, [])), (18, (0, 0, 0, 0, [])), (19, (72, 0, 0, 0, []))]
-- 126: field
def o_126 : List (Nat × Op) := [(0, (11, 0, 5, 0, [])), (2, (0, 0, 0, 0, [])), (3, (10, 0, 0, 0, [])), (4, (6, 0, 1, 0, [])), (5, (6, 0, 2, 0, [])), (6, (8, 0, 3, 0, [])), (7, (67, 0, 7, 9, [3, 0, 4, 332, 333, 334, 40, 335])), (10, (33, 0, 0, 0, [])), (11, (63, 0, 0, 0, [])), (12, (42, 19, 31, 0, [])), (15, (17, 0, 6, 0, [])), (17, (0, 1, 0, 0, [])), (18, (72, 0, 0, 0, [])), (19, (17, 0, 6, 0, [])), (21, (0, 2, 0, 0, [])), (22, (72, 0, 0, 0, [])), (23, (17, 0, 6, 0, [])), (25, (0, 3, 0, 0, [])), (26, (72, 0, 0, 0, [])), (27, (17, 0, 6, 0, [])), (29, (0, 4, 0, 0, [])), (30, (72, 0, 0, 0, [])), (31, (0, 0, 0, 0, [])), (32, (72, 0, 0, 0, []))]
-- 127: find
def o_127 : List (Nat × Op) := [(0, (11, 0, 4, 0, [])), (2, (0, 0, 0, 0, [])), (3, (10, 0, 0, 0, [])), (4, (6, 0, 1, 0, [])), (5, (6, 0, 2, 0, [])), (6, (6, 0, 3, 0, [])), (7, (67, 0, 32, 10, [3, 0, 3, 630, 631, 632, 40, 633])), (10, (33, 0, 0, 0, [])), (11, (63, 0, 0, 0, [])), (12, (42, 15, 27, 0, [])), (15, (17, 0, 5, 0, [])), (17, (0, 1, 0, 0, [])), (18, (72, 0, 0, 0, [])), (19, (17, 0, 5, 0, [])), (21, (0, 2, 0, 0, [])), (22, (72, 0, 0, 0, [])), (23, (17, 0, 5, 0, [])), (25, (0, 3, 0, 0, [])), (26, (72, 0, 0, 0, [])), (27, (0, 0, 0, 0, [])), (28, (72, 0, 0, 0, []))]
-- 128: fold
def o_128 : List (Nat × Op) := [(0, (11, 0, 4, 0, [])), (2, (0, 0, 0, 0, [])), (3, (10, 0, 0, 0, [])), (4, (6, 0, 1, 0, [])), (5, (6, 0, 2, 0, [])), (6, (6, 0, 3, 0, [])), (7, (67, 0, 44, 12, [3, 0, 3, 664, 665, 666, 40, 667])), (10, (63, 0, 0, 0, [])), (11, (42, 15, 26, 0, [])), (14, (17, 0, 5, 0, [])), (16, (0, 1, 0, 0, [])), (17, (72, 0, 0, 0, [])), (18, (17, 0, 5, 0, [])), (20, (0, 2, 0, 0, [])), (21, (72, 0, 0, 0, [])), (22, (17, 0, 5, 0, [])), (24, (0, 3, 0, 0, [])), (25, (72, 0, 0, 0, [])), (26, (0, 0, 0, 0, [])), (27, (72, 0, 0, 0, []))]
-- 129: forget
def o_129 : List (Nat × Op) := [(0, (10, 0, 3, 0, [])), (1, (0, 0, 0, 0, [])), (2, (10, 0, 0, 0, [])), (3, (6, 0, 1, 0, [])), (4, (6, 0, 2, 0, [])), (5, (67, 0, 25, 13, [2, 0, 2, 476, 477, 478, 40, 479])), (8, (33, 0, 0, 0, [])), (9, (63, 0, 0, 0, [])), (10, (42, 15, 25, 0, [])), (13, (17, 0, 4, 0, [])), (15, (0, 1, 0, 0, [])), (16, (72, 0, 0, 0, [])), (17, (17, 0, 4, 0, [])), (19, (0, 2, 0, 0, [])), (20, (72, 0, 0, 0, [])), (21, (17, 0, 4, 0, [])), (23, (0, 3, 0, 0, [])), (24, (72, 0, 0, 0, [])), (25, (0, 0, 0, 0, [])), (26, (72, 0, 0, 0, []))]
-- 130: form
def o_130 : List (Nat × Op) := [(0, (11, 0, 8, 0, [])), (2, (0, 0, 0, 0, [])), (3, (10, 0, 0, 0, [])), (4, (6, 0, 1, 0, [])), (5, (6, 0, 2, 0, [])), (6, (6, 0, 3, 0, [])), (7, (9, 0, 4, 0, [])), (9, (9, 0, 6, 0, [])), (11, (67, 0, 21, 14, [5, 0, 7, 460, 461, 462, 40, 463])), (14, (33, 0, 0, 0, [])), (15, (63, 0, 0, 0, [])), (16, (42, 19, 35, 0, [])), (19, (17, 0, 9, 0, [])), (21, (0, 1, 0, 0, [])), (22, (72, 0, 0, 0, [])), (23, (17, 0, 9, 0, [])), (25, (0, 2, 0, 0, [])), (26, (72, 0, 0, 0, [])), (27, (17, 0, 9, 0, [])), (29, (0, 3, 0, 0, [])), (30, (72, 0, 0, 0, [])), (31, (17, 0, 9, 0, [])), (33, (0, 4, 0, 0, [])), (34, (72, 0, 0, 0, [])), (35, (0, 0, 0, 0, [])), (36, (72, 0, 0, 0, []))]
-- 131: found
def o_131 : List (Nat × Op) := [(0, (10, 0, 3, 0, [])), (1, (0, 0, 0, 0, [])), (2, (10, 0, 0, 0, [])), (3, (6, 0, 1, 0, [])), (4, (6, 0, 2, 0, [])), (5, (67, 0, 73, 15, [2, 0, 2, 790, 791, 792, 40, 793])), (8, (63, 0, 0, 0, [])), (9, (42, 7, 16, 0, [])), (12, (17, 0, 4, 0, [])), (14, (0, 1, 0, 0, [])), (15, (72, 0, 0, 0, [])), (16, (0, 0, 0, 0, [])), (17, (72, 0, 0, 0, []))]
-- 132: open
def o_132 : List (Nat × Op) := [(0, (10, 0, 2, 0, [])), (1, (0, 0, 0, 0, [])), (2, (10, 0, 0, 0, [])), (3, (6, 0, 1, 0, [])), (4, (67, 0, 54, 20, [1, 0, 1, 704, 705, 706, 40, 707])), (7, (33, 0, 0, 0, [])), (8, (63, 0, 0, 0, [])), (9, (42, 12, 21, 0, [])), (12, (16, 0, 3, 0, [])), (13, (0, 1, 0, 0, [])), (14, (72, 0, 0, 0, [])), (15, (16, 0, 3, 0, [])), (16, (0, 2, 0, 0, [])), (17, (72, 0, 0, 0, [])), (18, (16, 0, 3, 0, [])), (19, (0, 3, 0, 0, [])), (20, (72, 0, 0, 0, [])), (21, (0, 0, 0, 0, [])), (22, (72, 0, 0, 0, []))]
-- 133: order
def o_133 : List (Nat × Op) := [(0, (10, 0, 2, 0, [])), (1, (0, 0, 0, 0, [])), (2, (10, 0, 0, 0, [])), (3, (6, 0, 1, 0, [])), (4, (67, 0, 48, 21, [1, 0, 1, 680, 681, 682, 40, 683])), (7, (33, 0, 0, 0, [])), (8, (63, 0, 0, 0, [])), (9, (42, 15, 24, 0, [])), (12, (16, 0, 3, 0, [])), (13, (0, 1, 0, 0, [])), (14, (72, 0, 0, 0, [])), (15, (16, 0, 3, 0, [])), (16, (0, 2, 0, 0, [])), (17, (72, 0, 0, 0, [])), (18, (16, 0, 3, 0, [])), (19, (0, 3, 0, 0, [])), (20, (72, 0, 0, 0, [])), (21, (16, 0, 3, 0, [])), (22, (0, 4, 0, 0, [])), (23, (72, 0, 0, 0, [])), (24, (0, 0, 0, 0, [])), (25, (72, 0, 0, 0, []))]
-- 134: put
def o_134 : List (Nat × Op) := [(0, (10, 0, 3, 0, [])), (1, (0, 0, 0, 0, [])), (2, (10, 0, 0, 0, [])), (3, (6, 0, 1, 0, [])), (4, (6, 0, 2, 0, [])), (5, (67, 0, 29, 23, [2, 0, 2, 491, 492, 493, 40, 494])), (8, (33, 0, 0, 0, [])), (9, (63, 0, 0, 0, [])), (10, (42, 19, 29, 0, [])), (13, (17, 0, 4, 0, [])), (15, (0, 1, 0, 0, [])), (16, (72, 0, 0, 0, [])), (17, (17, 0, 4, 0, [])), (19, (0, 2, 0, 0, [])), (20, (72, 0, 0, 0, [])), (21, (17, 0, 4, 0, [])), (23, (0, 3, 0, 0, [])), (24, (72, 0, 0, 0, [])), (25, (17, 0, 4, 0, [])), (27, (0, 4, 0, 0, [])), (28, (72, 0, 0, 0, [])), (29, (0, 0, 0, 0, [])), (30, (72, 0, 0, 0, []))]
-- 135: renew
def o_135 : List (Nat × Op) := [(0, (11, 0, 4, 0, [])), (2, (0, 0, 0, 0, [])), (3, (10, 0, 0, 0, [])), (4, (6, 0, 1, 0, [])), (5, (6, 0, 2, 0, [])), (6, (6, 0, 3, 0, [])), (7, (67, 0, 63, 25, [3, 0, 3, 759, 760, 761, 40, 762])), (10, (43, 7, 17, 0, [])), (13, (3, 1, 1, 0, [])), (14, (42, 4, 18, 0, [])), (17, (3, 0, 0, 0, [])), (18, (63, 0, 0, 0, [])), (19, (42, 15, 34, 0, [])), (22, (17, 0, 5, 0, [])), (24, (0, 1, 0, 0, [])), (25, (72, 0, 0, 0, [])), (26, (17, 0, 5, 0, [])), (28, (0, 2, 0, 0, [])), (29, (72, 0, 0, 0, [])), (30, (17, 0, 5, 0, [])), (32, (0, 3, 0, 0, [])), (33, (72, 0, 0, 0, [])), (34, (0, 0, 0, 0, [])), (35, (72, 0, 0, 0, []))]
-- 136: seen
def o_136 : List (Nat × Op) := [(0, (10, 0, 3, 0, [])), (1, (0, 0, 0, 0, [])), (2, (10, 0, 0, 0, [])), (3, (6, 0, 1, 0, [])), (4, (6, 0, 2, 0, [])), (5, (67, 0, 77, 28, [2, 0, 2, 809, 810, 811, 40, 812])), (8, (33, 0, 0, 0, [])), (9, (63, 0, 0, 0, [])), (10, (42, 7, 17, 0, [])), (13, (17, 0, 4, 0, [])), (15, (0, 1, 0, 0, [])), (16, (72, 0, 0, 0, [])), (17, (0, 0, 0, 0, [])), (18, (72, 0, 0, 0, []))]
-- 137: session
def o_137 : List (Nat × Op) := [(0, (10, 0, 3, 0, [])), (1, (0, 0, 0, 0, [])), (2, (10, 0, 0, 0, [])), (3, (6, 0, 1, 0, [])), (4, (6, 0, 2, 0, [])), (5, (67, 0, 70, 30, [2, 0, 2, 782, 783, 784, 40, 785])), (8, (33, 0, 0, 0, [])), (9, (63, 0, 0, 0, [])), (10, (42, 7, 17, 0, [])), (13, (17, 0, 4, 0, [])), (15, (0, 1, 0, 0, [])), (16, (72, 0, 0, 0, [])), (17, (0, 0, 0, 0, [])), (18, (72, 0, 0, 0, []))]
-- 138: stop
def o_138 : List (Nat × Op) := [(0, (10, 0, 2, 0, [])), (1, (0, 0, 0, 0, [])), (2, (10, 0, 0, 0, [])), (3, (6, 0, 1, 0, [])), (4, (67, 0, 36, 33, [1, 0, 1, 650, 651, 652, 40, 653])), (7, (43, 7, 14, 0, [])), (10, (3, 1, 1, 0, [])), (11, (42, 4, 15, 0, [])), (14, (3, 0, 0, 0, [])), (15, (63, 0, 0, 0, [])), (16, (42, 6, 22, 0, [])), (19, (16, 0, 3, 0, [])), (20, (0, 1, 0, 0, [])), (21, (72, 0, 0, 0, [])), (22, (0, 0, 0, 0, [])), (23, (72, 0, 0, 0, []))]
-- 139: swap
def o_139 : List (Nat × Op) := [(0, (10, 0, 2, 0, [])), (1, (0, 0, 0, 0, [])), (2, (10, 0, 0, 0, [])), (3, (6, 0, 1, 0, [])), (4, (67, 0, 40, 34, [1, 0, 1, 657, 658, 659, 40, 660])), (7, (33, 0, 0, 0, [])), (8, (63, 0, 0, 0, [])), (9, (42, 15, 24, 0, [])), (12, (16, 0, 3, 0, [])), (13, (0, 1, 0, 0, [])), (14, (72, 0, 0, 0, [])), (15, (16, 0, 3, 0, [])), (16, (0, 2, 0, 0, [])), (17, (72, 0, 0, 0, [])), (18, (16, 0, 3, 0, [])), (19, (0, 3, 0, 0, [])), (20, (72, 0, 0, 0, [])), (21, (16, 0, 3, 0, [])), (22, (0, 4, 0, 0, [])), (23, (72, 0, 0, 0, [])), (24, (0, 0, 0, 0, [])), (25, (72, 0, 0, 0, []))]
-- 140: tick
def o_140 : List (Nat × Op) := [(0, (10, 0, 2, 0, [])), (1, (0, 0, 0, 0, [])), (2, (10, 0, 0, 0, [])), (3, (6, 0, 1, 0, [])), (4, (67, 0, 67, 35, [1, 0, 1, 766, 767, 768, 40, 769])), (7, (33, 0, 0, 0, [])), (8, (63, 0, 0, 0, [])), (9, (42, 6, 15, 0, [])), (12, (16, 0, 3, 0, [])), (13, (0, 1, 0, 0, [])), (14, (72, 0, 0, 0, [])), (15, (0, 0, 0, 0, [])), (16, (72, 0, 0, 0, []))]
-- 141: law
def o_141 : List (Nat × Op) := [(3, (36, 0, 0, 0, [])), (4, (10, 0, 0, 0, [])), (5, (0, 0, 0, 0, [])), (12, (16, 0, 1, 0, [])), (16, (36, 0, 0, 0, [])), (17, (10, 0, 0, 0, [])), (18, (0, 0, 0, 0, [])), (25, (16, 0, 2, 0, [])), (26, (0, 1, 0, 0, [])), (29, (16, 0, 3, 0, [])), (30, (0, 1, 0, 0, [])), (31, (13, 0, 4, 0, [])), (33, (7, 0, 4, 0, [])), (35, (10, 0, 0, 0, [])), (36, (66, 0, 0, 0, [])), (37, (1, 8, 0, 0, [])), (39, (20, 0, 0, 0, [])), (40, (53, 1485, 1525, 0, [])), (43, (10, 0, 0, 0, [])), (44, (7, 0, 4, 0, [])), (46, (58, 0, 0, 0, [])), (47, (1, 31, 0, 0, [])), (49, (23, 0, 0, 0, [])), (50, (55, 1469, 0, 1519, [94, 144, 256, 428, 496, 564, 644, 707, 763, 842, 898, 954, 1010, 1066, 1122, 1209, 1265, 1278, 1346, 1413, 1481])), (144, (10, 0, 1, 0, [])), (145, (10, 0, 0, 0, [])), (146, (7, 0, 4, 0, [])), (148, (0, 1, 0, 0, [])), (149, (19, 0, 0, 0, [])), (150, (58, 0, 0, 0, [])), (151, (10, 0, 0, 0, [])), (152, (7, 0, 4, 0, [])), (154, (0, 2, 0, 0, [])), (155, (19, 0, 0, 0, [])), (156, (58, 0, 0, 0, [])), (157, (10, 0, 0, 0, [])), (158, (7, 0, 4, 0, [])), (160, (0, 3, 0, 0, [])), (161, (19, 0, 0, 0, [])), (162, (58, 0, 0, 0, [])), (163, (33, 0, 0, 0, [])), (164, (1, 32, 0, 0, [])), (166, (30, 0, 0, 0, [])), (167, (10, 0, 0, 0, [])), (168, (7, 0, 4, 0, [])), (170, (0, 4, 0, 0, [])), (171, (19, 0, 0, 0, [])), (172, (58, 0, 0, 0, [])), (173, (33, 0, 0, 0, [])), (174, (4, 4294967295, 92, 1113, [])), (177, (28, 0, 0, 0, [])), (178, (29, 0, 0, 0, [])), (179, (10, 0, 3, 0, [])), (180, (80, 0, 94, 126, [])), (183, (13, 0, 5, 0, [])), (185, (10, 0, 2, 0, [])), (186, (10, 0, 0, 0, [])), (187, (7, 0, 4, 0, [])), (189, (0, 1, 0, 0, [])), (190, (19, 0, 0, 0, [])), (191, (58, 0, 0, 0, [])), (192, (10, 0, 0, 0, [])), (193, (7, 0, 4, 0, [])), (195, (0, 2, 0, 0, [])), (196, (19, 0, 0, 0, [])), (197, (58, 0, 0, 0, [])), (198, (10, 0, 0, 0, [])), (199, (7, 0, 4, 0, [])), (201, (0, 3, 0, 0, [])), (202, (19, 0, 0, 0, [])), (203, (58, 0, 0, 0, [])), (204, (33, 0, 0, 0, [])), (205, (1, 32, 0, 0, [])), (207, (30, 0, 0, 0, [])), (208, (10, 0, 0, 0, [])), (209, (7, 0, 4, 0, [])), (211, (0, 4, 0, 0, [])), (212, (19, 0, 0, 0, [])), (213, (58, 0, 0, 0, [])), (214, (33, 0, 0, 0, [])), (215, (4, 4294967295, 92, 1113, [])), (218, (28, 0, 0, 0, [])), (219, (29, 0, 0, 0, [])), (220, (67, 0, 97, 88, [3, 9, 4, 940, 941, 942, 50, 943])), (223, (13, 0, 6, 0, [])), (225, (10, 0, 2, 0, [])), (226, (67, 0, 98, 120, [0, 9, 0, 936, 937, 938, 50, 939])), (229, (7, 0, 5, 0, [])), (231, (49, 5, 236, 0, [])), (234, (0, 0, 0, 0, [])), (235, (73, 0, 0, 0, [])), (236, (7, 0, 5, 0, [])), (238, (44, 15, 253, 0, [])), (241, (10, 0, 3, 0, [])), (242, (0, 0, 0, 0, [])), (243, (59, 0, 0, 0, [])), (244, (7, 0, 6, 0, [])), (246, (33, 0, 0, 0, [])), (247, (35, 0, 0, 0, [])), (248, (43, 5, 253, 0, [])), (251, (0, 0, 0, 0, [])), (252, (73, 0, 0, 0, [])), (253, (42, 1266, 1519, 0, [])), (256, (10, 0, 1, 0, [])), (257, (10, 0, 0, 0, [])), (258, (7, 0, 4, 0, [])), (260, (0, 1, 0, 0, [])), (261, (19, 0, 0, 0, [])), (262, (58, 0, 0, 0, [])), (263, (10, 0, 0, 0, [])), (264, (7, 0, 4, 0, [])), (266, (0, 2, 0, 0, [])), (267, (19, 0, 0, 0, [])), (268, (58, 0, 0, 0, [])), (269, (10, 0, 0, 0, [])), (270, (7, 0, 4, 0, [])), (272, (0, 3, 0, 0, [])), (273, (19, 0, 0, 0, [])), (274, (58, 0, 0, 0, [])), (275, (10, 0, 0, 0, [])), (276, (7, 0, 4, 0, [])), (278, (0, 4, 0, 0, [])), (279, (19, 0, 0, 0, [])), (280, (58, 0, 0, 0, [])), (281, (33, 0, 0, 0, [])), (282, (1, 32, 0, 0, [])), (284, (30, 0, 0, 0, [])), (285, (10, 0, 0, 0, [])), (286, (7, 0, 4, 0, [])), (288, (0, 5, 0, 0, [])), (289, (19, 0, 0, 0, [])), (290, (58, 0, 0, 0, [])), (291, (33, 0, 0, 0, [])), (292, (4, 4294967295, 92, 1113, [])), (295, (28, 0, 0, 0, [])), (296, (29, 0, 0, 0, [])), (297, (10, 0, 0, 0, [])), (298, (7, 0, 4, 0, [])), (300, (1, 6, 0, 0, [])), (302, (19, 0, 0, 0, [])), (303, (58, 0, 0, 0, [])), (304, (33, 0, 0, 0, [])), (305, (1, 32, 0, 0, [])), (307, (30, 0, 0, 0, [])), (308, (10, 0, 0, 0, [])), (309, (7, 0, 4, 0, [])), (311, (1, 7, 0, 0, [])), (313, (19, 0, 0, 0, [])), (314, (58, 0, 0, 0, [])), (315, (33, 0, 0, 0, [])), (316, (4, 4294967295, 92, 1113, [])), (319, (28, 0, 0, 0, [])), (320, (29, 0, 0, 0, [])), (321, (10, 0, 3, 0, [])), (322, (80, 0, 102, 130, [])), (325, (13, 0, 5, 0, [])), (327, (10, 0, 2, 0, [])), (328, (10, 0, 0, 0, [])), (329, (7, 0, 4, 0, [])), (331, (0, 1, 0, 0, [])), (332, (19, 0, 0, 0, [])), (333, (58, 0, 0, 0, [])), (334, (10, 0, 0, 0, [])), (335, (7, 0, 4, 0, [])), (337, (0, 2, 0, 0, [])), (338, (19, 0, 0, 0, [])), (339, (58, 0, 0, 0, [])), (340, (10, 0, 0, 0, [])), (341, (7, 0, 4, 0, [])), (343, (0, 3, 0, 0, [])), (344, (19, 0, 0, 0, [])), (345, (58, 0, 0, 0, [])), (346, (10, 0, 0, 0, [])), (347, (7, 0, 4, 0, [])), (349, (0, 4, 0, 0, [])), (350, (19, 0, 0, 0, [])), (351, (58, 0, 0, 0, [])), (352, (33, 0, 0, 0, [])), (353, (1, 32, 0, 0, [])), (355, (30, 0, 0, 0, [])), (356, (10, 0, 0, 0, [])), (357, (7, 0, 4, 0, [])), (359, (0, 5, 0, 0, [])), (360, (19, 0, 0, 0, [])), (361, (58, 0, 0, 0, [])), (362, (33, 0, 0, 0, [])), (363, (4, 4294967295, 92, 1113, [])), (366, (28, 0, 0, 0, [])), (367, (29, 0, 0, 0, [])), (368, (10, 0, 0, 0, [])), (369, (7, 0, 4, 0, [])), (371, (1, 6, 0, 0, [])), (373, (19, 0, 0, 0, [])), (374, (58, 0, 0, 0, [])), (375, (33, 0, 0, 0, [])), (376, (1, 32, 0, 0, [])), (378, (30, 0, 0, 0, [])), (379, (10, 0, 0, 0, [])), (380, (7, 0, 4, 0, [])), (382, (1, 7, 0, 0, [])), (384, (19, 0, 0, 0, [])), (385, (58, 0, 0, 0, [])), (386, (33, 0, 0, 0, [])), (387, (4, 4294967295, 92, 1113, [])), (390, (28, 0, 0, 0, [])), (391, (29, 0, 0, 0, [])), (392, (67, 0, 105, 94, [5, 9, 7, 960, 961, 962, 50, 963])), (395, (13, 0, 6, 0, [])), (397, (10, 0, 2, 0, [])), (398, (67, 0, 98, 120, [0, 9, 0, 936, 937, 938, 50, 939])), (401, (7, 0, 5, 0, [])), (403, (49, 5, 408, 0, [])), (406, (0, 0, 0, 0, [])), (407, (73, 0, 0, 0, [])), (408, (7, 0, 5, 0, [])), (410, (44, 15, 425, 0, [])), (413, (10, 0, 3, 0, [])), (414, (0, 0, 0, 0, [])), (415, (59, 0, 0, 0, [])), (416, (7, 0, 6, 0, [])), (418, (33, 0, 0, 0, [])), (419, (35, 0, 0, 0, [])), (420, (43, 5, 425, 0, [])), (423, (0, 0, 0, 0, [])), (424, (73, 0, 0, 0, [])), (425, (42, 1094, 1519, 0, [])), (428, (10, 0, 1, 0, [])), (429, (10, 0, 0, 0, [])), (430, (7, 0, 4, 0, [])), (432, (0, 1, 0, 0, [])), (433, (19, 0, 0, 0, [])), (434, (58, 0, 0, 0, [])), (435, (10, 0, 0, 0, [])), (436, (7, 0, 4, 0, [])), (438, (0, 2, 0, 0, [])), (439, (19, 0, 0, 0, [])), (440, (58, 0, 0, 0, [])), (441, (10, 0, 3, 0, [])), (442, (80, 0, 106, 129, [])), (445, (13, 0, 5, 0, [])), (447, (10, 0, 2, 0, [])), (448, (10, 0, 0, 0, [])), (449, (7, 0, 4, 0, [])), (451, (0, 1, 0, 0, [])), (452, (19, 0, 0, 0, [])), (453, (58, 0, 0, 0, [])), (454, (10, 0, 0, 0, [])), (455, (7, 0, 4, 0, [])), (457, (0, 2, 0, 0, [])), (458, (19, 0, 0, 0, [])), (459, (58, 0, 0, 0, [])), (460, (67, 0, 109, 93, [2, 9, 2, 966, 967, 968, 50, 969])), (463, (13, 0, 6, 0, [])), (465, (10, 0, 2, 0, [])), (466, (67, 0, 98, 120, [0, 9, 0, 936, 937, 938, 50, 939])), (469, (7, 0, 5, 0, [])), (471, (49, 5, 476, 0, [])), (474, (0, 0, 0, 0, [])), (475, (73, 0, 0, 0, [])), (476, (7, 0, 5, 0, [])), (478, (44, 15, 493, 0, [])), (481, (10, 0, 3, 0, [])), (482, (0, 0, 0, 0, [])), (483, (59, 0, 0, 0, [])), (484, (7, 0, 6, 0, [])), (486, (33, 0, 0, 0, [])), (487, (35, 0, 0, 0, [])), (488, (43, 5, 493, 0, [])), (491, (0, 0, 0, 0, [])), (492, (73, 0, 0, 0, [])), (493, (42, 1026, 1519, 0, [])), (496, (10, 0, 1, 0, [])), (497, (10, 0, 0, 0, [])), (498, (7, 0, 4, 0, [])), (500, (0, 1, 0, 0, [])), (501, (19, 0, 0, 0, [])), (502, (58, 0, 0, 0, [])), (503, (10, 0, 0, 0, [])), (504, (7, 0, 4, 0, [])), (506, (0, 2, 0, 0, [])), (507, (19, 0, 0, 0, [])), (508, (58, 0, 0, 0, [])), (509, (10, 0, 3, 0, [])), (510, (80, 0, 110, 134, [])), (513, (13, 0, 5, 0, [])), (515, (10, 0, 2, 0, [])), (516, (10, 0, 0, 0, [])), (517, (7, 0, 4, 0, [])), (519, (0, 1, 0, 0, [])), (520, (19, 0, 0, 0, [])), (521, (58, 0, 0, 0, [])), (522, (10, 0, 0, 0, [])), (523, (7, 0, 4, 0, [])), (525, (0, 2, 0, 0, [])), (526, (19, 0, 0, 0, [])), (527, (58, 0, 0, 0, [])), (528, (67, 0, 112, 108, [2, 9, 2, 970, 971, 972, 50, 973])), (531, (13, 0, 6, 0, [])), (533, (10, 0, 2, 0, [])), (534, (67, 0, 98, 120, [0, 9, 0, 936, 937, 938, 50, 939])), (537, (7, 0, 5, 0, [])), (539, (49, 5, 544, 0, [])), (542, (0, 0, 0, 0, [])), (543, (73, 0, 0, 0, [])), (544, (7, 0, 5, 0, [])), (546, (44, 15, 561, 0, [])), (549, (10, 0, 3, 0, [])), (550, (0, 0, 0, 0, [])), (551, (59, 0, 0, 0, [])), (552, (7, 0, 6, 0, [])), (554, (33, 0, 0, 0, [])), (555, (35, 0, 0, 0, [])), (556, (43, 5, 561, 0, [])), (559, (0, 0, 0, 0, [])), (560, (73, 0, 0, 0, [])), (561, (42, 958, 1519, 0, [])), (564, (10, 0, 1, 0, [])), (565, (10, 0, 0, 0, [])), (566, (7, 0, 4, 0, [])), (568, (0, 1, 0, 0, [])), (569, (19, 0, 0, 0, [])), (570, (58, 0, 0, 0, [])), (571, (10, 0, 0, 0, [])), (572, (7, 0, 4, 0, [])), (574, (0, 2, 0, 0, [])), (575, (19, 0, 0, 0, [])), (576, (58, 0, 0, 0, [])), (577, (10, 0, 0, 0, [])), (578, (7, 0, 4, 0, [])), (580, (0, 3, 0, 0, [])), (581, (19, 0, 0, 0, [])), (582, (58, 0, 0, 0, [])), (583, (10, 0, 3, 0, [])), (584, (80, 0, 113, 127, [])), (587, (13, 0, 5, 0, [])), (589, (10, 0, 2, 0, [])), (590, (10, 0, 0, 0, [])), (591, (7, 0, 4, 0, [])), (593, (0, 1, 0, 0, [])), (594, (19, 0, 0, 0, [])), (595, (58, 0, 0, 0, [])), (596, (10, 0, 0, 0, [])), (597, (7, 0, 4, 0, [])), (599, (0, 2, 0, 0, [])), (600, (19, 0, 0, 0, [])), (601, (58, 0, 0, 0, [])), (602, (10, 0, 0, 0, [])), (603, (7, 0, 4, 0, [])), (605, (0, 3, 0, 0, [])), (606, (19, 0, 0, 0, [])), (607, (58, 0, 0, 0, [])), (608, (67, 0, 116, 89, [3, 9, 3, 1028, 1029, 1030, 50, 1031])), (611, (13, 0, 6, 0, [])), (613, (10, 0, 2, 0, [])), (614, (67, 0, 98, 120, [0, 9, 0, 936, 937, 938, 50, 939])), (617, (7, 0, 5, 0, [])), (619, (49, 5, 624, 0, [])), (622, (0, 0, 0, 0, [])), (623, (73, 0, 0, 0, [])), (624, (7, 0, 5, 0, [])), (626, (44, 15, 641, 0, [])), (629, (10, 0, 3, 0, [])), (630, (0, 0, 0, 0, [])), (631, (59, 0, 0, 0, [])), (632, (7, 0, 6, 0, [])), (634, (33, 0, 0, 0, [])), (635, (35, 0, 0, 0, [])), (636, (43, 5, 641, 0, [])), (639, (0, 0, 0, 0, [])), (640, (73, 0, 0, 0, [])), (641, (42, 878, 1519, 0, [])), (644, (10, 0, 1, 0, [])), (645, (10, 0, 0, 0, [])), (646, (7, 0, 4, 0, [])), (648, (0, 1, 0, 0, [])), (649, (19, 0, 0, 0, [])), (650, (58, 0, 0, 0, [])), (651, (10, 0, 3, 0, [])), (652, (80, 0, 117, 138, [])), (655, (13, 0, 5, 0, [])), (657, (10, 0, 2, 0, [])), (658, (10, 0, 0, 0, [])), (659, (7, 0, 4, 0, [])), (661, (0, 1, 0, 0, [])), (662, (19, 0, 0, 0, [])), (663, (58, 0, 0, 0, [])), (664, (67, 0, 120, 118, [1, 9, 1, 1036, 1037, 1038, 50, 1039])), (667, (13, 0, 6, 0, [])), (669, (10, 0, 2, 0, [])), (670, (67, 0, 98, 120, [0, 9, 0, 936, 937, 938, 50, 939])), (673, (7, 0, 5, 0, [])), (675, (49, 5, 680, 0, [])), (678, (0, 0, 0, 0, [])), (679, (73, 0, 0, 0, [])), (680, (7, 0, 5, 0, [])), (682, (44, 22, 704, 0, [])), (685, (10, 0, 3, 0, [])), (686, (0, 0, 0, 0, [])), (687, (59, 0, 0, 0, [])), (688, (7, 0, 6, 0, [])), (690, (43, 7, 697, 0, [])), (693, (3, 1, 1, 0, [])), (694, (42, 4, 698, 0, [])), (697, (3, 0, 0, 0, [])), (698, (35, 0, 0, 0, [])), (699, (43, 5, 704, 0, [])), (702, (0, 0, 0, 0, [])), (703, (73, 0, 0, 0, [])), (704, (42, 815, 1519, 0, [])), (707, (10, 0, 1, 0, [])), (708, (10, 0, 0, 0, [])), (709, (7, 0, 4, 0, [])), (711, (0, 1, 0, 0, [])), (712, (19, 0, 0, 0, [])), (713, (58, 0, 0, 0, [])), (714, (10, 0, 3, 0, [])), (715, (80, 0, 121, 139, [])), (718, (13, 0, 5, 0, [])), (720, (10, 0, 2, 0, [])), (721, (10, 0, 0, 0, [])), (722, (7, 0, 4, 0, [])), (724, (0, 1, 0, 0, [])), (725, (19, 0, 0, 0, [])), (726, (58, 0, 0, 0, [])), (727, (67, 0, 123, 119, [1, 9, 1, 1040, 1041, 1042, 50, 1043])), (730, (13, 0, 6, 0, [])), (732, (10, 0, 2, 0, [])), (733, (67, 0, 98, 120, [0, 9, 0, 936, 937, 938, 50, 939])), (736, (7, 0, 5, 0, [])), (738, (49, 5, 743, 0, [])), (741, (0, 0, 0, 0, [])), (742, (73, 0, 0, 0, [])), (743, (7, 0, 5, 0, [])), (745, (44, 15, 760, 0, [])), (748, (10, 0, 3, 0, [])), (749, (0, 0, 0, 0, [])), (750, (59, 0, 0, 0, [])), (751, (7, 0, 6, 0, [])), (753, (33, 0, 0, 0, [])), (754, (35, 0, 0, 0, [])), (755, (43, 5, 760, 0, [])), (758, (0, 0, 0, 0, [])), (759, (73, 0, 0, 0, [])), (760, (42, 759, 1519, 0, [])), (763, (10, 0, 1, 0, [])), (764, (10, 0, 0, 0, [])), (765, (7, 0, 4, 0, [])), (767, (0, 1, 0, 0, [])), (768, (19, 0, 0, 0, [])), (769, (58, 0, 0, 0, [])), (770, (10, 0, 0, 0, [])), (771, (7, 0, 4, 0, [])), (773, (0, 2, 0, 0, [])), (774, (19, 0, 0, 0, [])), (775, (58, 0, 0, 0, [])), (776, (10, 0, 0, 0, [])), (777, (7, 0, 4, 0, [])), (779, (0, 3, 0, 0, [])), (780, (19, 0, 0, 0, [])), (781, (58, 0, 0, 0, [])), (782, (10, 0, 3, 0, [])), (783, (80, 0, 124, 128, [])), (786, (13, 0, 5, 0, [])), (788, (10, 0, 2, 0, [])), (789, (10, 0, 0, 0, [])), (790, (7, 0, 4, 0, [])), (792, (0, 1, 0, 0, [])), (793, (19, 0, 0, 0, [])), (794, (58, 0, 0, 0, [])), (795, (10, 0, 0, 0, [])), (796, (7, 0, 4, 0, [])), (798, (0, 2, 0, 0, [])), (799, (19, 0, 0, 0, [])), (800, (58, 0, 0, 0, [])), (801, (10, 0, 0, 0, [])), (802, (7, 0, 4, 0, [])), (804, (0, 3, 0, 0, [])), (805, (19, 0, 0, 0, [])), (806, (58, 0, 0, 0, [])), (807, (67, 0, 126, 92, [3, 9, 3, 1044, 1045, 1046, 50, 1047])), (810, (15, 0, 6, 0, [])), (812, (10, 0, 2, 0, [])), (813, (67, 0, 98, 120, [0, 9, 0, 936, 937, 938, 50, 939])), (816, (7, 0, 5, 0, [])), (818, (49, 5, 823, 0, [])), (821, (0, 0, 0, 0, [])), (822, (73, 0, 0, 0, [])), (823, (7, 0, 5, 0, [])), (825, (44, 14, 839, 0, [])), (828, (10, 0, 3, 0, [])), (829, (0, 0, 0, 0, [])), (830, (59, 0, 0, 0, [])), (831, (9, 0, 6, 0, [])), (833, (35, 0, 0, 0, [])), (834, (43, 5, 839, 0, [])), (837, (0, 0, 0, 0, [])), (838, (73, 0, 0, 0, [])), (839, (42, 680, 1519, 0, [])), (842, (10, 0, 1, 0, [])), (843, (10, 0, 0, 0, [])), (844, (7, 0, 4, 0, [])), (846, (0, 1, 0, 0, [])), (847, (19, 0, 0, 0, [])), (848, (58, 0, 0, 0, [])), (849, (10, 0, 3, 0, [])), (850, (80, 0, 127, 133, [])), (853, (13, 0, 5, 0, [])), (855, (10, 0, 2, 0, [])), (856, (10, 0, 0, 0, [])), (857, (7, 0, 4, 0, [])), (859, (0, 1, 0, 0, [])), (860, (19, 0, 0, 0, [])), (861, (58, 0, 0, 0, [])), (862, (67, 0, 129, 105, [1, 9, 1, 1048, 1049, 1050, 50, 1051])), (865, (13, 0, 6, 0, [])), (867, (10, 0, 2, 0, [])), (868, (67, 0, 98, 120, [0, 9, 0, 936, 937, 938, 50, 939])), (871, (7, 0, 5, 0, [])), (873, (49, 5, 878, 0, [])), (876, (0, 0, 0, 0, [])), (877, (73, 0, 0, 0, [])), (878, (7, 0, 5, 0, [])), (880, (44, 15, 895, 0, [])), (883, (10, 0, 3, 0, [])), (884, (0, 0, 0, 0, [])), (885, (59, 0, 0, 0, [])), (886, (7, 0, 6, 0, [])), (888, (33, 0, 0, 0, [])), (889, (35, 0, 0, 0, [])), (890, (43, 5, 895, 0, [])), (893, (0, 0, 0, 0, [])), (894, (73, 0, 0, 0, [])), (895, (42, 624, 1519, 0, [])), (898, (10, 0, 1, 0, [])), (899, (10, 0, 0, 0, [])), (900, (7, 0, 4, 0, [])), (902, (0, 1, 0, 0, [])), (903, (19, 0, 0, 0, [])), (904, (58, 0, 0, 0, [])), (905, (10, 0, 3, 0, [])), (906, (80, 0, 130, 124, [])), (909, (13, 0, 5, 0, [])), (911, (10, 0, 2, 0, [])), (912, (10, 0, 0, 0, [])), (913, (7, 0, 4, 0, [])), (915, (0, 1, 0, 0, [])), (916, (19, 0, 0, 0, [])), (917, (58, 0, 0, 0, [])), (918, (67, 0, 132, 84, [1, 9, 1, 1052, 1053, 1054, 50, 1055])), (921, (13, 0, 6, 0, [])), (923, (10, 0, 2, 0, [])), (924, (67, 0, 98, 120, [0, 9, 0, 936, 937, 938, 50, 939])), (927, (7, 0, 5, 0, [])), (929, (49, 5, 934, 0, [])), (932, (0, 0, 0, 0, [])), (933, (73, 0, 0, 0, [])), (934, (7, 0, 5, 0, [])), (936, (44, 15, 951, 0, [])), (939, (10, 0, 3, 0, [])), (940, (0, 0, 0, 0, [])), (941, (59, 0, 0, 0, [])), (942, (7, 0, 6, 0, [])), (944, (33, 0, 0, 0, [])), (945, (35, 0, 0, 0, [])), (946, (43, 5, 951, 0, [])), (949, (0, 0, 0, 0, [])), (950, (73, 0, 0, 0, [])), (951, (42, 568, 1519, 0, [])), (954, (10, 0, 1, 0, [])), (955, (10, 0, 0, 0, [])), (956, (7, 0, 4, 0, [])), (958, (0, 1, 0, 0, [])), (959, (19, 0, 0, 0, [])), (960, (58, 0, 0, 0, [])), (961, (10, 0, 3, 0, [])), (962, (80, 0, 133, 132, [])), (965, (13, 0, 5, 0, [])), (967, (10, 0, 2, 0, [])), (968, (10, 0, 0, 0, [])), (969, (7, 0, 4, 0, [])), (971, (0, 1, 0, 0, [])), (972, (19, 0, 0, 0, [])), (973, (58, 0, 0, 0, [])), (974, (67, 0, 135, 104, [1, 9, 1, 1056, 1057, 1058, 50, 1059])), (977, (13, 0, 6, 0, [])), (979, (10, 0, 2, 0, [])), (980, (67, 0, 98, 120, [0, 9, 0, 936, 937, 938, 50, 939])), (983, (7, 0, 5, 0, [])), (985, (49, 5, 990, 0, [])), (988, (0, 0, 0, 0, [])), (989, (73, 0, 0, 0, [])), (990, (7, 0, 5, 0, [])), (992, (44, 15, 1007, 0, [])), (995, (10, 0, 3, 0, [])), (996, (0, 0, 0, 0, [])), (997, (59, 0, 0, 0, [])), (998, (7, 0, 6, 0, [])), (1000, (33, 0, 0, 0, [])), (1001, (35, 0, 0, 0, [])), (1002, (43, 5, 1007, 0, [])), (1005, (0, 0, 0, 0, [])), (1006, (73, 0, 0, 0, [])), (1007, (42, 512, 1519, 0, [])), (1010, (10, 0, 1, 0, [])), (1011, (10, 0, 0, 0, [])), (1012, (7, 0, 4, 0, [])), (1014, (0, 1, 0, 0, [])), (1015, (19, 0, 0, 0, [])), (1016, (58, 0, 0, 0, [])), (1017, (10, 0, 3, 0, [])), (1018, (80, 0, 136, 125, [])), (1021, (13, 0, 5, 0, [])), (1023, (10, 0, 2, 0, [])), (1024, (10, 0, 0, 0, [])), (1025, (7, 0, 4, 0, [])), (1027, (0, 1, 0, 0, [])), (1028, (19, 0, 0, 0, [])), (1029, (58, 0, 0, 0, [])), (1030, (67, 0, 138, 85, [1, 9, 1, 1060, 1061, 1062, 50, 1063])), (1033, (13, 0, 6, 0, [])), (1035, (10, 0, 2, 0, [])), (1036, (67, 0, 98, 120, [0, 9, 0, 936, 937, 938, 50, 939])), (1039, (7, 0, 5, 0, [])), (1041, (49, 5, 1046, 0, [])), (1044, (0, 0, 0, 0, [])), (1045, (73, 0, 0, 0, [])), (1046, (7, 0, 5, 0, [])), (1048, (44, 15, 1063, 0, [])), (1051, (10, 0, 3, 0, [])), (1052, (0, 0, 0, 0, [])), (1053, (59, 0, 0, 0, [])), (1054, (7, 0, 6, 0, [])), (1056, (33, 0, 0, 0, [])), (1057, (35, 0, 0, 0, [])), (1058, (43, 5, 1063, 0, [])), (1061, (0, 0, 0, 0, [])), (1062, (73, 0, 0, 0, [])), (1063, (42, 456, 1519, 0, [])), (1066, (10, 0, 1, 0, [])), (1067, (10, 0, 0, 0, [])), (1068, (7, 0, 4, 0, [])), (1070, (0, 1, 0, 0, [])), (1071, (19, 0, 0, 0, [])), (1072, (58, 0, 0, 0, [])), (1073, (10, 0, 3, 0, [])), (1074, (80, 0, 139, 123, [])), (1077, (13, 0, 5, 0, [])), (1079, (10, 0, 2, 0, [])), (1080, (10, 0, 0, 0, [])), (1081, (7, 0, 4, 0, [])), (1083, (0, 1, 0, 0, [])), (1084, (19, 0, 0, 0, [])), (1085, (58, 0, 0, 0, [])), (1086, (67, 0, 141, 79, [1, 9, 1, 1072, 1073, 1074, 50, 1075])), (1089, (13, 0, 6, 0, [])), (1091, (10, 0, 2, 0, [])), (1092, (67, 0, 98, 120, [0, 9, 0, 936, 937, 938, 50, 939])), (1095, (7, 0, 5, 0, [])), (1097, (49, 5, 1102, 0, [])), (1100, (0, 0, 0, 0, [])), (1101, (73, 0, 0, 0, [])), (1102, (7, 0, 5, 0, [])), (1104, (44, 15, 1119, 0, [])), (1107, (10, 0, 3, 0, [])), (1108, (0, 0, 0, 0, [])), (1109, (59, 0, 0, 0, [])), (1110, (7, 0, 6, 0, [])), (1112, (33, 0, 0, 0, [])), (1113, (35, 0, 0, 0, [])), (1114, (43, 5, 1119, 0, [])), (1117, (0, 0, 0, 0, [])), (1118, (73, 0, 0, 0, [])), (1119, (42, 400, 1519, 0, [])), (1122, (10, 0, 1, 0, [])), (1123, (10, 0, 0, 0, [])), (1124, (7, 0, 4, 0, [])), (1126, (0, 1, 0, 0, [])), (1127, (19, 0, 0, 0, [])), (1128, (58, 0, 0, 0, [])), (1129, (10, 0, 0, 0, [])), (1130, (7, 0, 4, 0, [])), (1132, (0, 2, 0, 0, [])), (1133, (19, 0, 0, 0, [])), (1134, (58, 0, 0, 0, [])), (1135, (10, 0, 0, 0, [])), (1136, (7, 0, 4, 0, [])), (1138, (0, 3, 0, 0, [])), (1139, (19, 0, 0, 0, [])), (1140, (58, 0, 0, 0, [])), (1141, (10, 0, 3, 0, [])), (1142, (80, 0, 142, 135, [])), (1145, (13, 0, 5, 0, [])), (1147, (10, 0, 2, 0, [])), (1148, (10, 0, 0, 0, [])), (1149, (7, 0, 4, 0, [])), (1151, (0, 1, 0, 0, [])), (1152, (19, 0, 0, 0, [])), (1153, (58, 0, 0, 0, [])), (1154, (10, 0, 0, 0, [])), (1155, (7, 0, 4, 0, [])), (1157, (0, 2, 0, 0, [])), (1158, (19, 0, 0, 0, [])), (1159, (58, 0, 0, 0, [])), (1160, (10, 0, 0, 0, [])), (1161, (7, 0, 4, 0, [])), (1163, (0, 3, 0, 0, [])), (1164, (19, 0, 0, 0, [])), (1165, (58, 0, 0, 0, [])), (1166, (67, 0, 144, 111, [3, 9, 3, 1080, 1081, 1082, 50, 1083])), (1169, (13, 0, 6, 0, [])), (1171, (10, 0, 2, 0, [])), (1172, (67, 0, 98, 120, [0, 9, 0, 936, 937, 938, 50, 939])), (1175, (7, 0, 5, 0, [])), (1177, (49, 5, 1182, 0, [])), (1180, (0, 0, 0, 0, [])), (1181, (73, 0, 0, 0, [])), (1182, (7, 0, 5, 0, [])), (1184, (44, 22, 1206, 0, [])), (1187, (10, 0, 3, 0, [])), (1188, (0, 0, 0, 0, [])), (1189, (59, 0, 0, 0, [])), (1190, (7, 0, 6, 0, [])), (1192, (43, 7, 1199, 0, [])), (1195, (3, 1, 1, 0, [])), (1196, (42, 4, 1200, 0, [])), (1199, (3, 0, 0, 0, [])), (1200, (35, 0, 0, 0, [])), (1201, (43, 5, 1206, 0, [])), (1204, (0, 0, 0, 0, [])), (1205, (73, 0, 0, 0, [])), (1206, (42, 313, 1519, 0, [])), (1209, (10, 0, 1, 0, [])), (1210, (10, 0, 0, 0, [])), (1211, (7, 0, 4, 0, [])), (1213, (0, 1, 0, 0, [])), (1214, (19, 0, 0, 0, [])), (1215, (58, 0, 0, 0, [])), (1216, (10, 0, 3, 0, [])), (1217, (80, 0, 145, 140, [])), (1220, (13, 0, 5, 0, [])), (1222, (10, 0, 2, 0, [])), (1223, (10, 0, 0, 0, [])), (1224, (7, 0, 4, 0, [])), (1226, (0, 1, 0, 0, [])), (1227, (19, 0, 0, 0, [])), (1228, (58, 0, 0, 0, [])), (1229, (67, 0, 147, 121, [1, 9, 1, 1084, 1085, 1086, 50, 1087])), (1232, (13, 0, 6, 0, [])), (1234, (10, 0, 2, 0, [])), (1235, (67, 0, 98, 120, [0, 9, 0, 936, 937, 938, 50, 939])), (1238, (7, 0, 5, 0, [])), (1240, (49, 5, 1245, 0, [])), (1243, (0, 0, 0, 0, [])), (1244, (73, 0, 0, 0, [])), (1245, (7, 0, 5, 0, [])), (1247, (44, 15, 1262, 0, [])), (1250, (10, 0, 3, 0, [])), (1251, (0, 0, 0, 0, [])), (1252, (59, 0, 0, 0, [])), (1253, (7, 0, 6, 0, [])), (1255, (33, 0, 0, 0, [])), (1256, (35, 0, 0, 0, [])), (1257, (43, 5, 1262, 0, [])), (1260, (0, 0, 0, 0, [])), (1261, (73, 0, 0, 0, [])), (1262, (42, 257, 1519, 0, [])), (1265, (10, 0, 1, 0, [])), (1266, (67, 0, 148, 19, [0, 0, 0, 300, 301, 302, 40, 303])), (1269, (10, 0, 2, 0, [])), (1270, (67, 0, 151, 103, [0, 9, 0, 1092, 1093, 1094, 50, 1095])), (1273, (49, 246, 1519, 0, [])), (1276, (0, 0, 0, 0, [])), (1277, (73, 0, 0, 0, [])), (1278, (10, 0, 1, 0, [])), (1279, (10, 0, 0, 0, [])), (1280, (7, 0, 4, 0, [])), (1282, (0, 1, 0, 0, [])), (1283, (19, 0, 0, 0, [])), (1284, (58, 0, 0, 0, [])), (1285, (10, 0, 0, 0, [])), (1286, (7, 0, 4, 0, [])), (1288, (0, 2, 0, 0, [])), (1289, (19, 0, 0, 0, [])), (1290, (58, 0, 0, 0, [])), (1291, (10, 0, 3, 0, [])), (1292, (80, 0, 152, 137, [])), (1295, (13, 0, 5, 0, [])), (1297, (10, 0, 2, 0, [])), (1298, (10, 0, 0, 0, [])), (1299, (7, 0, 4, 0, [])), (1301, (0, 1, 0, 0, [])), (1302, (19, 0, 0, 0, [])), (1303, (58, 0, 0, 0, [])), (1304, (10, 0, 0, 0, [])), (1305, (7, 0, 4, 0, [])), (1307, (0, 2, 0, 0, [])), (1308, (19, 0, 0, 0, [])), (1309, (58, 0, 0, 0, [])), (1310, (67, 0, 154, 116, [2, 9, 2, 1096, 1097, 1098, 50, 1099])), (1313, (13, 0, 6, 0, [])), (1315, (10, 0, 2, 0, [])), (1316, (67, 0, 98, 120, [0, 9, 0, 936, 937, 938, 50, 939])), (1319, (7, 0, 5, 0, [])), (1321, (49, 5, 1326, 0, [])), (1324, (0, 0, 0, 0, [])), (1325, (73, 0, 0, 0, [])), (1326, (7, 0, 5, 0, [])), (1328, (44, 15, 1343, 0, [])), (1331, (10, 0, 3, 0, [])), (1332, (0, 0, 0, 0, [])), (1333, (59, 0, 0, 0, [])), (1334, (7, 0, 6, 0, [])), (1336, (33, 0, 0, 0, [])), (1337, (35, 0, 0, 0, [])), (1338, (43, 5, 1343, 0, [])), (1341, (0, 0, 0, 0, [])), (1342, (73, 0, 0, 0, [])), (1343, (42, 176, 1519, 0, [])), (1346, (10, 0, 1, 0, [])), (1347, (10, 0, 0, 0, [])), (1348, (7, 0, 4, 0, [])), (1350, (0, 1, 0, 0, [])), (1351, (19, 0, 0, 0, [])), (1352, (58, 0, 0, 0, [])), (1353, (10, 0, 0, 0, [])), (1354, (7, 0, 4, 0, [])), (1356, (0, 2, 0, 0, [])), (1357, (19, 0, 0, 0, [])), (1358, (58, 0, 0, 0, [])), (1359, (10, 0, 3, 0, [])), (1360, (80, 0, 155, 131, [])), (1363, (13, 0, 5, 0, [])), (1365, (10, 0, 2, 0, [])), (1366, (10, 0, 0, 0, [])), (1367, (7, 0, 4, 0, [])), (1369, (0, 1, 0, 0, [])), (1370, (19, 0, 0, 0, [])), (1371, (58, 0, 0, 0, [])), (1372, (10, 0, 0, 0, [])), (1373, (7, 0, 4, 0, [])), (1375, (0, 2, 0, 0, [])), (1376, (19, 0, 0, 0, [])), (1377, (58, 0, 0, 0, [])), (1378, (67, 0, 157, 95, [2, 9, 2, 1100, 1101, 1102, 50, 1103])), (1381, (15, 0, 6, 0, [])), (1383, (10, 0, 2, 0, [])), (1384, (67, 0, 98, 120, [0, 9, 0, 936, 937, 938, 50, 939])), (1387, (7, 0, 5, 0, [])), (1389, (49, 5, 1394, 0, [])), (1392, (0, 0, 0, 0, [])), (1393, (73, 0, 0, 0, [])), (1394, (7, 0, 5, 0, [])), (1396, (44, 14, 1410, 0, [])), (1399, (10, 0, 3, 0, [])), (1400, (0, 0, 0, 0, [])), (1401, (59, 0, 0, 0, [])), (1402, (9, 0, 6, 0, [])), (1404, (35, 0, 0, 0, [])), (1405, (43, 5, 1410, 0, [])), (1408, (0, 0, 0, 0, [])), (1409, (73, 0, 0, 0, [])), (1410, (42, 109, 1519, 0, [])), (1413, (10, 0, 1, 0, [])), (1414, (10, 0, 0, 0, [])), (1415, (7, 0, 4, 0, [])), (1417, (0, 1, 0, 0, [])), (1418, (19, 0, 0, 0, [])), (1419, (58, 0, 0, 0, [])), (1420, (10, 0, 0, 0, [])), (1421, (7, 0, 4, 0, [])), (1423, (0, 2, 0, 0, [])), (1424, (19, 0, 0, 0, [])), (1425, (58, 0, 0, 0, [])), (1426, (10, 0, 3, 0, [])), (1427, (80, 0, 158, 136, [])), (1430, (13, 0, 5, 0, [])), (1432, (10, 0, 2, 0, [])), (1433, (10, 0, 0, 0, [])), (1434, (7, 0, 4, 0, [])), (1436, (0, 1, 0, 0, [])), (1437, (19, 0, 0, 0, [])), (1438, (58, 0, 0, 0, [])), (1439, (10, 0, 0, 0, [])), (1440, (7, 0, 4, 0, [])), (1442, (0, 2, 0, 0, [])), (1443, (19, 0, 0, 0, [])), (1444, (58, 0, 0, 0, [])), (1445, (67, 0, 160, 113, [2, 9, 2, 1105, 1106, 1107, 50, 1108])), (1448, (13, 0, 6, 0, [])), (1450, (10, 0, 2, 0, [])), (1451, (67, 0, 98, 120, [0, 9, 0, 936, 937, 938, 50, 939])), (1454, (7, 0, 5, 0, [])), (1456, (49, 5, 1461, 0, [])), (1459, (0, 0, 0, 0, [])), (1460, (73, 0, 0, 0, [])), (1461, (7, 0, 5, 0, [])), (1463, (44, 15, 1478, 0, [])), (1466, (10, 0, 3, 0, [])), (1467, (0, 0, 0, 0, [])), (1468, (59, 0, 0, 0, [])), (1469, (7, 0, 6, 0, [])), (1471, (33, 0, 0, 0, [])), (1472, (35, 0, 0, 0, [])), (1473, (43, 5, 1478, 0, [])), (1476, (0, 0, 0, 0, [])), (1477, (73, 0, 0, 0, [])), (1478, (42, 41, 1519, 0, [])), (1481, (10, 0, 1, 0, [])), (1482, (10, 0, 0, 0, [])), (1483, (7, 0, 4, 0, [])), (1485, (0, 1, 0, 0, [])), (1486, (19, 0, 0, 0, [])), (1487, (58, 0, 0, 0, [])), (1488, (10, 0, 0, 0, [])), (1489, (7, 0, 4, 0, [])), (1491, (0, 2, 0, 0, [])), (1492, (19, 0, 0, 0, [])), (1493, (58, 0, 0, 0, [])), (1494, (67, 0, 161, 2, [2, 0, 2, 304, 305, 306, 40, 307])), (1497, (10, 0, 2, 0, [])), (1498, (10, 0, 0, 0, [])), (1499, (7, 0, 4, 0, [])), (1501, (0, 1, 0, 0, [])), (1502, (19, 0, 0, 0, [])), (1503, (58, 0, 0, 0, [])), (1504, (10, 0, 0, 0, [])), (1505, (7, 0, 4, 0, [])), (1507, (0, 2, 0, 0, [])), (1508, (19, 0, 0, 0, [])), (1509, (58, 0, 0, 0, [])), (1510, (67, 0, 164, 80, [2, 9, 2, 1109, 1110, 1111, 50, 1112])), (1513, (35, 0, 0, 0, [])), (1514, (43, 5, 1519, 0, [])), (1517, (0, 0, 0, 0, [])), (1518, (73, 0, 0, 0, [])), (1519, (18, 8, 4, 0, [])), (1522, (42, (-1489), 33, 0, [])), (1525, (0, 1, 0, 0, [])), (1526, (73, 0, 0, 0, []))]
def q_prg : List (List (Nat × Op)) := [o_0, o_1, o_2, o_3, o_4, o_5, o_6, o_7, o_8, o_9, o_10, o_11, o_12, o_13, o_14, o_15, o_16, o_17, o_18, o_19, o_20, o_21, o_22, o_23, o_24, o_25, o_26, o_27, o_28, o_29, o_30, o_31, o_32, o_33, o_34, o_35, o_36, o_37, o_38, o_39, o_40, o_41, o_42, o_43, o_44, o_45, o_46, o_47, o_48, o_49, o_50, o_51, o_52, o_53, o_54, o_55, o_56, o_57, o_58, o_59, o_60, o_61, o_62, o_63, o_64, o_65, o_66, o_67, o_68, o_69, o_70, o_71, o_72, o_73, o_74, o_75, o_76, o_77, o_78, o_79, o_80, o_81, o_82, o_83, o_84, o_85, o_86, o_87, o_88, o_89, o_90, o_91, o_92, o_93, o_94, o_95, o_96, o_97, o_98, o_99, o_100, o_101, o_102, o_103, o_104, o_105, o_106, o_107, o_108, o_109, o_110, o_111, o_112, o_113, o_114, o_115, o_116, o_117, o_118, o_119, o_120, o_121, o_122, o_123, o_124, o_125, o_126, o_127, o_128, o_129, o_130, o_131, o_132, o_133, o_134, o_135, o_136, o_137, o_138, o_139, o_140, o_141]
def q_fd : List (Nat × Op) → Nat → Option Op
  | [], _ => none
  | q :: r, a => bif Nat.beq q.1 a then some q.2 else q_fd r a
theorem q_fd_in {L : List (Nat × Op)} {a : Nat} {v : Op} (h : q_fd L a = some v) : (a, v) ∈ L := by
  induction L with
  | nil => cases h
  | cons q r ih =>
    unfold q_fd at h
    cases hb : Nat.beq q.1 a with
    | true =>
      rw [hb] at h
      have h : some q.2 = some v := h
      cases h
      have e := Nat.eq_of_beq_eq_true hb
      rw [← e]
      exact List.mem_cons_self
    | false =>
      rw [hb] at h
      exact List.mem_cons_of_mem _ (ih h)
def q_pr (k pc : Nat) : Option Op := q_fd (q_prg.getD k []) pc
end
section
/-! A run writes only cells of the kinds that it can reach. Ours, written by keep.py -/
def q_ik (K : Nat → Bool) (v : PV) : Prop := match v with
  | .inr (.inr (some q)) => K q.1 = true
  | _ => True
def q_kst (K : Nat → Bool) : List PV → Prop
  | [] => True
  | v :: r => q_ik K v ∧ q_kst K r
def q_kL (K : Nat → Bool) (L : PL) : Prop := ∀ a v, L a = some v → q_ik K v
def q_sm (K : Nat → Bool) (σ τ : J) : Prop := ∀ k, K k = false → σ.1 k = τ.1 k ∧ σ.2.1 k = τ.2.1 k ∧ σ.2.2.1 k = τ.2.2.1 k ∧ σ.2.2.2 k = τ.2.2.2 k
def q_clK (K : Nat → Bool) : Prop := (∀ k w, q_ko k = some w → K k = true → ∀ d ∈ w.2, ¬ d.1 < 2 → K d.2.1 = true) ∧ ∀ k w, q_ka k = some w → K k = true → 2 < w.1 → K w.2.1 = true
def q_kp (K : Nat → Bool) (σ : J) (r : Res) : Prop := q_sm K σ r.2 ∧ ∀ v, r.1 = .inl (some v) → q_ik K v
theorem q_sm.rf {K : Nat → Bool} {σ : J} : q_sm K σ σ := fun _ _ => ⟨rfl, rfl, rfl, rfl⟩
theorem q_sm.tr {K : Nat → Bool} {σ τ υ : J} (h1 : q_sm K σ τ) (h2 : q_sm K τ υ) : q_sm K σ υ := fun k hk => ⟨(h1 k hk).1.trans (h2 k hk).1, (h1 k hk).2.1.trans (h2 k hk).2.1, (h1 k hk).2.2.1.trans (h2 k hk).2.2.1, (h1 k hk).2.2.2.trans (h2 k hk).2.2.2⟩
theorem q_sm.sI {K : Nat → Bool} {σ τ : J} (h : q_sm K σ τ) {k f i : Nat} {v : Int32} (hk : K k = true) : q_sm K σ (q_sI τ k f i v) := fun k' hk' => by
  have hne : ¬ k' = k := fun e => by rw [e, hk] at hk'; cases hk'
  refine ⟨(h k' hk').1.trans ?_, (h k' hk').2.1, (h k' hk').2.2.1, (h k' hk').2.2.2⟩
  funext x y
  exact (if_neg fun q => hne q.1).symm
theorem q_sm.sA {K : Nat → Bool} {σ τ : J} (h : q_sm K σ τ) {k i : Nat} {v : Nat → Int32} (hk : K k = true) : q_sm K σ (q_sA τ k i v) := fun k' hk' => by
  have hne : ¬ k' = k := fun e => by rw [e, hk] at hk'; cases hk'
  refine ⟨(h k' hk').1, (h k' hk').2.1.trans ?_, (h k' hk').2.2.1, (h k' hk').2.2.2⟩
  funext x
  exact (if_neg fun q => hne q.1).symm
theorem q_sm.sL {K : Nat → Bool} {σ τ : J} (h : q_sm K σ τ) {k i : Nat} {v : Nat → Int64} (hk : K k = true) : q_sm K σ (q_sL τ k i v) := fun k' hk' => by
  have hne : ¬ k' = k := fun e => by rw [e, hk] at hk'; cases hk'
  refine ⟨(h k' hk').1, (h k' hk').2.1, (h k' hk').2.2.1.trans ?_, (h k' hk').2.2.2⟩
  funext x
  exact (if_neg fun q => hne q.1).symm
theorem q_sm.sP {K : Nat → Bool} {σ τ : J} (h : q_sm K σ τ) {k i : Nat} {v : Nat → Nat} (hk : K k = true) : q_sm K σ (q_sP τ k i v) := fun k' hk' => by
  have hne : ¬ k' = k := fun e => by rw [e, hk] at hk'; cases hk'
  refine ⟨(h k' hk').1, (h k' hk').2.1, (h k' hk').2.2.1, (h k' hk').2.2.2.trans ?_⟩
  funext x
  exact (if_neg fun q => hne q.1).symm
theorem q_kL.s1 {K : Nat → Bool} {L : PL} (h : q_kL K L) {a : Nat} {v : PV} (hv : q_ik K v) : q_kL K (q_s1 L a v) := fun b w hw => by
  rcases q_s1_le hw with rfl | hw
  · exact hv
  · exact h b w hw
theorem q_kL.s2 {K : Nat → Bool} {L : PL} (h : q_kL K L) {a : Nat} {v : PV} (hv : q_ik K v) : q_kL K (q_s2 L a v) := fun b w hw => by
  rcases q_s2_le hw with rfl | hw
  · exact hv
  · exact h b w hw
theorem q_kst_app {K : Nat → Bool} {x y : List PV} : q_kst K (x ++ y) ↔ q_kst K x ∧ q_kst K y := by
  induction x with
  | nil => simp [q_kst]
  | cons v r ih => simp [q_kst, ih, and_assoc]
theorem q_kst_rev {K : Nat → Bool} {x : List PV} : q_kst K x.reverse ↔ q_kst K x := by
  induction x with
  | nil => simp [q_kst]
  | cons v r ih => simp [q_kst_app, q_kst, ih, and_comm]
theorem q_kst_mem {K : Nat → Bool} {x : List PV} (h : q_kst K x) : ∀ v ∈ x, q_ik K v := by
  induction x with
  | nil => intro v hv; cases hv
  | cons w r ih =>
    intro v hv
    rcases List.mem_cons.mp hv with rfl | hv
    · exact h.1
    · exact ih h.2 v hv
theorem q_af_or2 {n : Nat} {g : List PV → J → Option Res} {rest : List PV} {z r : Res} (h : q_af n g rest z = some r) : (∃ v σ1, z = (.inl v, σ1) ∧ g (v.toList ++ rest) σ1 = some r) ∨ ∃ ex σ1, z = (.inr ex, σ1) ∧ r = (.inr ex, σ1) := by
  obtain ⟨v | ex, σ1⟩ := z
  · left
    cases v with
    | none => exact ⟨none, σ1, rfl, h⟩
    | some v => exact ⟨some v, σ1, rfl, (q_bf (show (bif q_ok n v then g (v :: rest) σ1 else none) = some r from h)).2⟩
  · have h : some (Sum.inr ex, σ1) = some r := h
    exact Or.inr ⟨ex, σ1, rfl, (Option.some.inj h).symm⟩
section KEEP
variable {K : Nat → Bool} {n pc : Nat} {g : Nat → PL → List PV → J → Option Res} {cal : Nat → List PV → J → Option Res} {L : PL} {st : List PV} {σ σ0 : J} {ox : Int} {oa ob : Nat} {ol : List Nat} {r : Res}
theorem q_k_fv {k i f : Nat} {w : Nat × List (Nat × Nat × Nat)} {d : Nat × Nat × Nat} (hK : q_clK K) (hk : K k = true) (h : q_ko k = some w) (hd : w.2[f]? = some d) : q_ik K (q_fv σ k i f d) := by
  unfold q_fv
  by_cases h2 : d.1 < 2
  · rw [Nat.blt_eq.mpr h2]
    trivial
  · have e : Nat.blt d.1 2 = false := by
      cases hb : Nat.blt d.1 2 with
      | false => rfl
      | true => exact absurd (Nat.blt_eq.mp hb) h2
    rw [e]
    exact hK.1 k w h hk d (List.mem_of_getElem? hd) h2
theorem q_k_sw {x : Int32} {t : Nat} {G : Nat → Option Res} {P : Prop} (hG : ∀ t, G t = some r → P) (l : List Nat) : ∀ v, q_sw G x v l t = some r → P := by
  induction l with
  | nil => intro v h; exact hG t h
  | cons u l ih =>
    intro v h
    replace h : (if x = Int32.ofNat v then G u else q_sw G x (v + 1) l t) = some r := h
    by_cases hc : x = Int32.ofNat v
    · rw [if_pos hc] at h
      exact hG u h
    · rw [if_neg hc] at h
      exact ih (v + 1) h
theorem q_kstp {ci : Nat} (hK : q_clK K) (hg : ∀ pc L st σ, g pc L st σ = some r → q_sm K σ0 σ → q_kL K L → q_kst K st → q_kp K σ0 r) (hc : ∀ k vs σ z, cal k vs σ = some z → q_kst K vs → q_kp K σ z) (hs : q_sm K σ0 σ) (hL : q_kL K L) (hst : q_kst K st) (h : q_stp n g cal pc (ci, ox, oa, ob, ol) L st σ = some r) : q_kp K σ0 r := by
  by_cases hbig : 77 < ci ∨ ci = 5
  · rw [q_big hbig] at h
    cases h
  have hlt : ci < 78 := by omega
  match ci, hlt, h with
  | 0, _, h =>
    exact hg _ _ _ _ h hs hL ⟨trivial, hst⟩
  | 1, _, h =>
    exact hg _ _ _ _ h hs hL ⟨trivial, hst⟩
  | 2, _, h =>
    exact hg _ _ _ _ h hs hL ⟨trivial, hst⟩
  | 3, _, h =>
    exact hg _ _ _ _ h hs hL ⟨trivial, hst⟩
  | 4, _, h =>
    exact hg _ _ _ _ h hs hL ⟨trivial, hst⟩
  | 39, _, h =>
    exact hg _ _ _ _ h hs hL ⟨trivial, hst⟩
  | 6, _, h =>
    obtain ⟨v, e0, h⟩ := Option.bind_eq_some_iff.mp h
    obtain ⟨w, e1, h⟩ := Option.bind_eq_some_iff.mp h
    exact hg _ _ _ _ h hs hL ⟨hL _ _ e0, hst⟩
  | 7, _, h =>
    obtain ⟨v, e0, h⟩ := Option.bind_eq_some_iff.mp h
    obtain ⟨w, e1, h⟩ := Option.bind_eq_some_iff.mp h
    exact hg _ _ _ _ h hs hL ⟨hL _ _ e0, hst⟩
  | 8, _, h =>
    obtain ⟨v, e0, h⟩ := Option.bind_eq_some_iff.mp h
    obtain ⟨w, e1, h⟩ := Option.bind_eq_some_iff.mp h
    exact hg _ _ _ _ h hs hL ⟨hL _ _ e0, hst⟩
  | 9, _, h =>
    obtain ⟨v, e0, h⟩ := Option.bind_eq_some_iff.mp h
    obtain ⟨w, e1, h⟩ := Option.bind_eq_some_iff.mp h
    exact hg _ _ _ _ h hs hL ⟨hL _ _ e0, hst⟩
  | 10, _, h =>
    obtain ⟨v, e0, h⟩ := Option.bind_eq_some_iff.mp h
    obtain ⟨w, e1, h⟩ := Option.bind_eq_some_iff.mp h
    exact hg _ _ _ _ h hs hL ⟨hL _ _ e0, hst⟩
  | 11, _, h =>
    obtain ⟨v, e0, h⟩ := Option.bind_eq_some_iff.mp h
    obtain ⟨w, e1, h⟩ := Option.bind_eq_some_iff.mp h
    exact hg _ _ _ _ h hs hL ⟨hL _ _ e0, hst⟩
  | 12, _, h =>
    obtain ⟨x0, e0, h⟩ := Option.bind_eq_some_iff.mp h
    rw [q_pI_s e0] at hst
    exact hg _ _ _ _ h hs (hL.s1 hst.1) hst.2
  | 13, _, h =>
    obtain ⟨x0, e0, h⟩ := Option.bind_eq_some_iff.mp h
    rw [q_pI_s e0] at hst
    exact hg _ _ _ _ h hs (hL.s1 hst.1) hst.2
  | 14, _, h =>
    obtain ⟨x0, e0, h⟩ := Option.bind_eq_some_iff.mp h
    rw [q_pL_s e0] at hst
    exact hg _ _ _ _ h hs (hL.s2 hst.1) hst.2
  | 15, _, h =>
    obtain ⟨x0, e0, h⟩ := Option.bind_eq_some_iff.mp h
    rw [q_pL_s e0] at hst
    exact hg _ _ _ _ h hs (hL.s2 hst.1) hst.2
  | 16, _, h =>
    obtain ⟨x0, e0, h⟩ := Option.bind_eq_some_iff.mp h
    rw [q_pN_s e0] at hst
    exact hg _ _ _ _ h hs (hL.s1 hst.1) hst.2
  | 17, _, h =>
    obtain ⟨x0, e0, h⟩ := Option.bind_eq_some_iff.mp h
    rw [q_pN_s e0] at hst
    exact hg _ _ _ _ h hs (hL.s1 hst.1) hst.2
  | 18, _, h =>
    obtain ⟨v, e0, h⟩ := Option.bind_eq_some_iff.mp h
    obtain ⟨w, e1, h⟩ := Option.bind_eq_some_iff.mp h
    exact hg _ _ _ _ h hs (hL.s1 trivial) hst
  | 19, _, h =>
    obtain ⟨x0, e0, h⟩ := Option.bind_eq_some_iff.mp h
    obtain ⟨x1, e1, h⟩ := Option.bind_eq_some_iff.mp h
    rw [q_pI_s e0, q_pI_s e1] at hst
    exact hg _ _ _ _ h hs hL ⟨trivial, hst.2.2⟩
  | 20, _, h =>
    obtain ⟨x0, e0, h⟩ := Option.bind_eq_some_iff.mp h
    obtain ⟨x1, e1, h⟩ := Option.bind_eq_some_iff.mp h
    rw [q_pI_s e0, q_pI_s e1] at hst
    exact hg _ _ _ _ h hs hL ⟨trivial, hst.2.2⟩
  | 21, _, h =>
    obtain ⟨x0, e0, h⟩ := Option.bind_eq_some_iff.mp h
    obtain ⟨x1, e1, h⟩ := Option.bind_eq_some_iff.mp h
    rw [q_pI_s e0, q_pI_s e1] at hst
    exact hg _ _ _ _ h hs hL ⟨trivial, hst.2.2⟩
  | 23, _, h =>
    obtain ⟨x0, e0, h⟩ := Option.bind_eq_some_iff.mp h
    obtain ⟨x1, e1, h⟩ := Option.bind_eq_some_iff.mp h
    rw [q_pI_s e0, q_pI_s e1] at hst
    exact hg _ _ _ _ h hs hL ⟨trivial, hst.2.2⟩
  | 24, _, h =>
    obtain ⟨x0, e0, h⟩ := Option.bind_eq_some_iff.mp h
    obtain ⟨x1, e1, h⟩ := Option.bind_eq_some_iff.mp h
    rw [q_pI_s e0, q_pI_s e1] at hst
    exact hg _ _ _ _ h hs hL ⟨trivial, hst.2.2⟩
  | 25, _, h =>
    obtain ⟨x0, e0, h⟩ := Option.bind_eq_some_iff.mp h
    obtain ⟨x1, e1, h⟩ := Option.bind_eq_some_iff.mp h
    rw [q_pI_s e0, q_pI_s e1] at hst
    exact hg _ _ _ _ h hs hL ⟨trivial, hst.2.2⟩
  | 26, _, h =>
    obtain ⟨x0, e0, h⟩ := Option.bind_eq_some_iff.mp h
    obtain ⟨x1, e1, h⟩ := Option.bind_eq_some_iff.mp h
    rw [q_pI_s e0, q_pI_s e1] at hst
    exact hg _ _ _ _ h hs hL ⟨trivial, hst.2.2⟩
  | 22, _, h =>
    obtain ⟨x0, e0, h⟩ := Option.bind_eq_some_iff.mp h
    obtain ⟨x1, e1, h⟩ := Option.bind_eq_some_iff.mp h
    rw [q_pI_s e0, q_pI_s e1] at hst
    by_cases hz : x0.1 = 0
    · rw [if_pos hz] at h
      cases h
    · rw [if_neg hz] at h
      exact hg _ _ _ _ h hs hL ⟨trivial, hst.2.2⟩
  | 27, _, h =>
    obtain ⟨x0, e0, h⟩ := Option.bind_eq_some_iff.mp h
    obtain ⟨x1, e1, h⟩ := Option.bind_eq_some_iff.mp h
    rw [q_pL_s e0, q_pL_s e1] at hst
    exact hg _ _ _ _ h hs hL ⟨trivial, hst.2.2⟩
  | 28, _, h =>
    obtain ⟨x0, e0, h⟩ := Option.bind_eq_some_iff.mp h
    obtain ⟨x1, e1, h⟩ := Option.bind_eq_some_iff.mp h
    rw [q_pL_s e0, q_pL_s e1] at hst
    exact hg _ _ _ _ h hs hL ⟨trivial, hst.2.2⟩
  | 29, _, h =>
    obtain ⟨x0, e0, h⟩ := Option.bind_eq_some_iff.mp h
    obtain ⟨x1, e1, h⟩ := Option.bind_eq_some_iff.mp h
    rw [q_pL_s e0, q_pL_s e1] at hst
    exact hg _ _ _ _ h hs hL ⟨trivial, hst.2.2⟩
  | 35, _, h =>
    obtain ⟨x0, e0, h⟩ := Option.bind_eq_some_iff.mp h
    obtain ⟨x1, e1, h⟩ := Option.bind_eq_some_iff.mp h
    rw [q_pL_s e0, q_pL_s e1] at hst
    exact hg _ _ _ _ h hs hL ⟨trivial, hst.2.2⟩
  | 30, _, h =>
    obtain ⟨x0, e0, h⟩ := Option.bind_eq_some_iff.mp h
    obtain ⟨x1, e1, h⟩ := Option.bind_eq_some_iff.mp h
    rw [q_pI_s e0, q_pL_s e1] at hst
    exact hg _ _ _ _ h hs hL ⟨trivial, hst.2.2⟩
  | 31, _, h =>
    obtain ⟨x0, e0, h⟩ := Option.bind_eq_some_iff.mp h
    obtain ⟨x1, e1, h⟩ := Option.bind_eq_some_iff.mp h
    rw [q_pI_s e0, q_pL_s e1] at hst
    exact hg _ _ _ _ h hs hL ⟨trivial, hst.2.2⟩
  | 32, _, h =>
    obtain ⟨x0, e0, h⟩ := Option.bind_eq_some_iff.mp h
    obtain ⟨x1, e1, h⟩ := Option.bind_eq_some_iff.mp h
    rw [q_pI_s e0, q_pL_s e1] at hst
    exact hg _ _ _ _ h hs hL ⟨trivial, hst.2.2⟩
  | 33, _, h =>
    obtain ⟨x0, e0, h⟩ := Option.bind_eq_some_iff.mp h
    rw [q_pI_s e0] at hst
    exact hg _ _ _ _ h hs hL ⟨trivial, hst.2⟩
  | 34, _, h =>
    obtain ⟨x0, e0, h⟩ := Option.bind_eq_some_iff.mp h
    rw [q_pL_s e0] at hst
    exact hg _ _ _ _ h hs hL ⟨trivial, hst.2⟩
  | 36, _, h =>
    obtain ⟨x0, e0, h⟩ := Option.bind_eq_some_iff.mp h
    rw [q_p1_s e0] at hst
    exact hg _ _ _ _ h hs hL ⟨hst.1, hst⟩
  | 37, _, h =>
    obtain ⟨x0, e0, h⟩ := Option.bind_eq_some_iff.mp h
    rw [q_p1_s e0] at hst
    exact hg _ _ _ _ h hs hL hst.2
  | 38, _, h =>
    obtain ⟨x0, e0, h⟩ := Option.bind_eq_some_iff.mp h
    obtain ⟨x1, e1, h⟩ := Option.bind_eq_some_iff.mp h
    rw [q_p1_s e0, q_p1_s e1] at hst
    exact hg _ _ _ _ h hs hL ⟨hst.1, hst.2.1, hst⟩
  | 40, _, h =>
    obtain ⟨x0, e0, h⟩ := Option.bind_eq_some_iff.mp h
    rw [q_pN_s e0] at hst
    obtain ⟨y, z⟩ := x0
    cases y <;> exact hg _ _ _ _ h hs hL hst.2
  | 41, _, h =>
    obtain ⟨x0, e0, h⟩ := Option.bind_eq_some_iff.mp h
    rw [q_pN_s e0] at hst
    obtain ⟨y, z⟩ := x0
    cases y <;> exact hg _ _ _ _ h hs hL hst.2
  | 42, _, h =>
    exact hg _ _ _ _ h hs hL hst
  | 43, _, h =>
    obtain ⟨x0, e0, h⟩ := Option.bind_eq_some_iff.mp h
    rw [q_pI_s e0] at hst
    split at h <;> exact hg _ _ _ _ h hs hL hst.2
  | 44, _, h =>
    obtain ⟨x0, e0, h⟩ := Option.bind_eq_some_iff.mp h
    rw [q_pI_s e0] at hst
    split at h <;> exact hg _ _ _ _ h hs hL hst.2
  | 45, _, h =>
    obtain ⟨x0, e0, h⟩ := Option.bind_eq_some_iff.mp h
    rw [q_pI_s e0] at hst
    split at h <;> exact hg _ _ _ _ h hs hL hst.2
  | 46, _, h =>
    obtain ⟨x0, e0, h⟩ := Option.bind_eq_some_iff.mp h
    rw [q_pI_s e0] at hst
    split at h <;> exact hg _ _ _ _ h hs hL hst.2
  | 47, _, h =>
    obtain ⟨x0, e0, h⟩ := Option.bind_eq_some_iff.mp h
    rw [q_pI_s e0] at hst
    split at h <;> exact hg _ _ _ _ h hs hL hst.2
  | 48, _, h =>
    obtain ⟨x0, e0, h⟩ := Option.bind_eq_some_iff.mp h
    rw [q_pI_s e0] at hst
    split at h <;> exact hg _ _ _ _ h hs hL hst.2
  | 49, _, h =>
    obtain ⟨x0, e0, h⟩ := Option.bind_eq_some_iff.mp h
    obtain ⟨x1, e1, h⟩ := Option.bind_eq_some_iff.mp h
    rw [q_pI_s e0, q_pI_s e1] at hst
    split at h <;> exact hg _ _ _ _ h hs hL hst.2.2
  | 50, _, h =>
    obtain ⟨x0, e0, h⟩ := Option.bind_eq_some_iff.mp h
    obtain ⟨x1, e1, h⟩ := Option.bind_eq_some_iff.mp h
    rw [q_pI_s e0, q_pI_s e1] at hst
    split at h <;> exact hg _ _ _ _ h hs hL hst.2.2
  | 51, _, h =>
    obtain ⟨x0, e0, h⟩ := Option.bind_eq_some_iff.mp h
    obtain ⟨x1, e1, h⟩ := Option.bind_eq_some_iff.mp h
    rw [q_pI_s e0, q_pI_s e1] at hst
    split at h <;> exact hg _ _ _ _ h hs hL hst.2.2
  | 52, _, h =>
    obtain ⟨x0, e0, h⟩ := Option.bind_eq_some_iff.mp h
    obtain ⟨x1, e1, h⟩ := Option.bind_eq_some_iff.mp h
    rw [q_pI_s e0, q_pI_s e1] at hst
    split at h <;> exact hg _ _ _ _ h hs hL hst.2.2
  | 53, _, h =>
    obtain ⟨x0, e0, h⟩ := Option.bind_eq_some_iff.mp h
    obtain ⟨x1, e1, h⟩ := Option.bind_eq_some_iff.mp h
    rw [q_pI_s e0, q_pI_s e1] at hst
    split at h <;> exact hg _ _ _ _ h hs hL hst.2.2
  | 54, _, h =>
    obtain ⟨x0, e0, h⟩ := Option.bind_eq_some_iff.mp h
    obtain ⟨x1, e1, h⟩ := Option.bind_eq_some_iff.mp h
    rw [q_pI_s e0, q_pI_s e1] at hst
    split at h <;> exact hg _ _ _ _ h hs hL hst.2.2
  | 55, _, h =>
    obtain ⟨x0, e0, h⟩ := Option.bind_eq_some_iff.mp h
    rw [q_pI_s e0] at hst
    exact q_k_sw (fun t h => hg _ _ _ _ h hs hL hst.2) _ _ h
  | 56, _, h =>
    obtain ⟨x0, e0, h⟩ := Option.bind_eq_some_iff.mp h
    rw [q_pR_s e0] at hst
    obtain ⟨w, ew, h⟩ := Option.bind_eq_some_iff.mp h
    obtain ⟨hb, h⟩ := q_bf h
    obtain ⟨d, ed, h⟩ := Option.bind_eq_some_iff.mp h
    exact hg _ _ _ _ h hs hL ⟨q_k_fv hK hst.1 ew ed, hst.2⟩
  | 57, _, h =>
    obtain ⟨x0, e0, h⟩ := Option.bind_eq_some_iff.mp h
    obtain ⟨x1, e1, h⟩ := Option.bind_eq_some_iff.mp h
    rw [q_pI_s e0, q_pR_s e1] at hst
    obtain ⟨w, ew, h⟩ := Option.bind_eq_some_iff.mp h
    obtain ⟨hb, h⟩ := q_bf h
    obtain ⟨d, ed, h⟩ := Option.bind_eq_some_iff.mp h
    cases h0 : Nat.beq d.1 0 with
    | true =>
      rw [h0] at h
      exact hg _ _ _ _ h (hs.sI hst.2.1) hL hst.2.2
    | false =>
      rw [h0] at h
      obtain ⟨h1, h⟩ := q_bf h
      split at h
      · exact hg _ _ _ _ h (hs.sI hst.2.1) hL hst.2.2
      · cases h
  | 58, _, h =>
    obtain ⟨x0, e0, h⟩ := Option.bind_eq_some_iff.mp h
    obtain ⟨x1, e1, h⟩ := Option.bind_eq_some_iff.mp h
    rw [q_pI_s e0, q_pR_s e1] at hst
    obtain ⟨w, ew, h⟩ := Option.bind_eq_some_iff.mp h
    obtain ⟨hb, h⟩ := q_bf h
    obtain ⟨hz, h⟩ := q_bf h
    exact hg _ _ _ _ h hs hL ⟨trivial, hst.2.2⟩
  | 59, _, h =>
    obtain ⟨x0, e0, h⟩ := Option.bind_eq_some_iff.mp h
    obtain ⟨x1, e1, h⟩ := Option.bind_eq_some_iff.mp h
    rw [q_pI_s e0, q_pR_s e1] at hst
    obtain ⟨w, ew, h⟩ := Option.bind_eq_some_iff.mp h
    obtain ⟨hb, h⟩ := q_bf h
    obtain ⟨hz, h⟩ := q_bf h
    exact hg _ _ _ _ h hs hL ⟨trivial, hst.2.2⟩
  | 61, _, h =>
    obtain ⟨x0, e0, h⟩ := Option.bind_eq_some_iff.mp h
    obtain ⟨x1, e1, h⟩ := Option.bind_eq_some_iff.mp h
    rw [q_pI_s e0, q_pR_s e1] at hst
    obtain ⟨w, ew, h⟩ := Option.bind_eq_some_iff.mp h
    obtain ⟨hb, h⟩ := q_bf h
    obtain ⟨hz, h⟩ := q_bf h
    exact hg _ _ _ _ h hs hL ⟨trivial, hst.2.2⟩
  | 60, _, h =>
    obtain ⟨x0, e0, h⟩ := Option.bind_eq_some_iff.mp h
    obtain ⟨x1, e1, h⟩ := Option.bind_eq_some_iff.mp h
    rw [q_pI_s e0, q_pR_s e1] at hst
    obtain ⟨w, ew, h⟩ := Option.bind_eq_some_iff.mp h
    obtain ⟨hb, h⟩ := q_bf h
    obtain ⟨hz, h⟩ := q_bf h
    obtain ⟨hy, h⟩ := q_bf h
    exact hg _ _ _ _ h hs hL ⟨hK.2 _ _ ew hst.2.1 (Nat.blt_eq.mp hb), hst.2.2⟩
  | 62, _, h =>
    obtain ⟨x0, e0, h⟩ := Option.bind_eq_some_iff.mp h
    obtain ⟨x1, e1, h⟩ := Option.bind_eq_some_iff.mp h
    obtain ⟨x2, e2, h⟩ := Option.bind_eq_some_iff.mp h
    rw [q_pI_s e0, q_pI_s e1, q_pR_s e2] at hst
    obtain ⟨w, ew, h⟩ := Option.bind_eq_some_iff.mp h
    obtain ⟨hb, h⟩ := q_bf h
    obtain ⟨hz, h⟩ := q_bf h
    exact hg _ _ _ _ h (hs.sA hst.2.2.1) hL hst.2.2.2
  | 63, _, h =>
    obtain ⟨x0, e0, h⟩ := Option.bind_eq_some_iff.mp h
    obtain ⟨x1, e1, h⟩ := Option.bind_eq_some_iff.mp h
    obtain ⟨x2, e2, h⟩ := Option.bind_eq_some_iff.mp h
    rw [q_pL_s e0, q_pI_s e1, q_pR_s e2] at hst
    obtain ⟨w, ew, h⟩ := Option.bind_eq_some_iff.mp h
    obtain ⟨hb, h⟩ := q_bf h
    obtain ⟨hz, h⟩ := q_bf h
    exact hg _ _ _ _ h (hs.sL hst.2.2.1) hL hst.2.2.2
  | 64, _, h =>
    obtain ⟨x0, e0, h⟩ := Option.bind_eq_some_iff.mp h
    obtain ⟨x1, e1, h⟩ := Option.bind_eq_some_iff.mp h
    obtain ⟨x2, e2, h⟩ := Option.bind_eq_some_iff.mp h
    rw [q_pR_s e0, q_pI_s e1, q_pR_s e2] at hst
    obtain ⟨w, ew, h⟩ := Option.bind_eq_some_iff.mp h
    obtain ⟨hb, h⟩ := q_bf h
    obtain ⟨hz, h⟩ := q_bf h
    exact hg _ _ _ _ h (hs.sP hst.2.2.1) hL hst.2.2.2
  | 65, _, h =>
    obtain ⟨x0, e0, h⟩ := Option.bind_eq_some_iff.mp h
    obtain ⟨x1, e1, h⟩ := Option.bind_eq_some_iff.mp h
    obtain ⟨x2, e2, h⟩ := Option.bind_eq_some_iff.mp h
    rw [q_pI_s e0, q_pI_s e1, q_pR_s e2] at hst
    obtain ⟨w, ew, h⟩ := Option.bind_eq_some_iff.mp h
    obtain ⟨hb, h⟩ := q_bf h
    obtain ⟨hz, h⟩ := q_bf h
    split at h
    · exact hg _ _ _ _ h (hs.sA hst.2.2.1) hL hst.2.2.2
    · cases h
  | 66, _, h =>
    obtain ⟨x0, e0, h⟩ := Option.bind_eq_some_iff.mp h
    rw [q_pR_s e0] at hst
    obtain ⟨w, ew, h⟩ := Option.bind_eq_some_iff.mp h
    exact hg _ _ _ _ h hs hL ⟨trivial, hst.2⟩
  | 67, _, h =>
    obtain ⟨a, ea, h⟩ := Option.bind_eq_some_iff.mp h
    obtain ⟨q, eq, h⟩ := Option.bind_eq_some_iff.mp h
    obtain ⟨w, ew, h⟩ := Option.bind_eq_some_iff.mp h
    obtain ⟨hb, h⟩ := q_bf h
    obtain ⟨z, ez, h⟩ := Option.bind_eq_some_iff.mp h
    rw [(q_pop_s _ ea).1, q_pR_s eq] at hst
    have hst2 := q_kst_app.mp hst
    have hz := hc _ _ _ _ ez ⟨hst2.2.1, q_kst_rev.mp hst2.1⟩
    rcases q_af_or2 h with ⟨v, σ1, rfl, h2⟩ | ⟨ex, σ1, rfl, rfl⟩
    · refine hg _ _ _ _ h2 (hs.tr hz.1) hL (q_kst_app.mpr ⟨?_, hst2.2.2⟩)
      cases v with
      | none => trivial
      | some v => exact ⟨hz.2 v rfl, trivial⟩
    · exact ⟨hs.tr hz.1, fun v hv => by cases hv⟩
  | 68, _, h =>
    obtain ⟨a, ea, h⟩ := Option.bind_eq_some_iff.mp h
    obtain ⟨hb, h⟩ := q_bf h
    obtain ⟨z, ez, h⟩ := Option.bind_eq_some_iff.mp h
    rw [(q_pop_s _ ea).1] at hst
    have hst2 := q_kst_app.mp hst
    have hz := hc _ _ _ _ ez (q_kst_rev.mp hst2.1)
    rcases q_af_or2 h with ⟨v, σ1, rfl, h2⟩ | ⟨ex, σ1, rfl, rfl⟩
    · refine hg _ _ _ _ h2 (hs.tr hz.1) hL (q_kst_app.mpr ⟨?_, hst2.2⟩)
      cases v with
      | none => trivial
      | some v => exact ⟨hz.2 v rfl, trivial⟩
    · exact ⟨hs.tr hz.1, fun v hv => by cases hv⟩
  | 69, _, h =>
    obtain ⟨x0, e0, h⟩ := Option.bind_eq_some_iff.mp h
    obtain ⟨x1, e1, h⟩ := Option.bind_eq_some_iff.mp h
    obtain ⟨x2, e2, h⟩ := Option.bind_eq_some_iff.mp h
    obtain ⟨x3, e3, h⟩ := Option.bind_eq_some_iff.mp h
    obtain ⟨x4, e4, h⟩ := Option.bind_eq_some_iff.mp h
    rw [q_pI_s e0, q_pI_s e1, q_pR_s e2, q_pI_s e3, q_pR_s e4] at hst
    obtain ⟨wa, ewa, h⟩ := Option.bind_eq_some_iff.mp h
    obtain ⟨wb, ewb, h⟩ := Option.bind_eq_some_iff.mp h
    obtain ⟨hb, h⟩ := q_bf h
    cases hk : (Nat.beq wa.1 0 && Nat.beq wb.1 0) with
    | true =>
      rw [hk] at h
      exact hg _ _ _ _ h (hs.sA hst.2.2.1) hL hst.2.2.2.2.2
    | false =>
      rw [hk] at h
      obtain ⟨hk2, h⟩ := q_bf h
      exact hg _ _ _ _ h (hs.sL hst.2.2.1) hL hst.2.2.2.2.2
  | 70, _, h =>
    obtain ⟨x0, e0, h⟩ := Option.bind_eq_some_iff.mp h
    obtain ⟨x1, e1, h⟩ := Option.bind_eq_some_iff.mp h
    rw [q_pL_s e0, q_pL_s e1] at hst
    obtain ⟨hb, h⟩ := q_bf h
    exact hg _ _ _ _ h hs hL ⟨trivial, hst.2.2⟩
  | 71, _, h =>
    obtain ⟨x0, e0, h⟩ := Option.bind_eq_some_iff.mp h
    obtain ⟨x1, e1, h⟩ := Option.bind_eq_some_iff.mp h
    rw [q_pL_s e0, q_pL_s e1] at hst
    obtain ⟨hb, h⟩ := q_bf h
    exact hg _ _ _ _ h hs hL ⟨trivial, hst.2.2⟩
  | 72, _, h =>
    obtain ⟨x0, e0, h⟩ := Option.bind_eq_some_iff.mp h
    rw [q_pI_s e0] at hst
    obtain ⟨y, z⟩ := x0
    cases z with
    | cons _ _ => cases h
    | nil =>
      cases h
      exact ⟨hs, fun v hv => by cases hv; exact hst.1⟩
  | 74, _, h =>
    obtain ⟨x0, e0, h⟩ := Option.bind_eq_some_iff.mp h
    rw [q_pL_s e0] at hst
    obtain ⟨y, z⟩ := x0
    cases z with
    | cons _ _ => cases h
    | nil =>
      cases h
      exact ⟨hs, fun v hv => by cases hv; exact hst.1⟩
  | 75, _, h =>
    obtain ⟨x0, e0, h⟩ := Option.bind_eq_some_iff.mp h
    rw [q_pN_s e0] at hst
    obtain ⟨y, z⟩ := x0
    cases z with
    | cons _ _ => cases h
    | nil =>
      cases h
      exact ⟨hs, fun v hv => by cases hv; exact hst.1⟩
  | 73, _, h =>
    obtain ⟨x0, e0, h⟩ := Option.bind_eq_some_iff.mp h
    rw [q_pI_s e0] at hst
    obtain ⟨y, z⟩ := x0
    cases z with
    | cons _ _ => cases h
    | nil =>
      replace h : (if y &&& 1 = y then some (Sum.inl (some (Sum.inl y)), σ) else none) = some r := h
      split at h
      · cases h
        exact ⟨hs, fun v hv => by cases hv; exact hst.1⟩
      · cases h
  | 76, _, h =>
    cases st with
    | cons _ _ =>
      replace h : none = some r := h
      cases h
    | nil =>
      replace h : some (Sum.inl none, σ) = some r := h
      cases h
      exact ⟨hs, fun v hv => by cases hv⟩
  | 77, _, h =>
    cases st with
    | cons _ _ =>
      replace h : none = some r := h
      cases h
    | nil =>
      replace h : some (Sum.inr oa, σ) = some r := h
      cases h
      exact ⟨hs, fun v hv => by cases hv⟩
  | 5, _, h => exact absurd (Or.inr rfl) hbig
  | _ + 78, hl, _ => omega
end KEEP
theorem q_kargs {K : Nat → Bool} {vs : List PV} (h : q_kst K vs) : q_kL K (q_args 0 vs) := fun b v hb => q_kst_mem h v (q_args_in (ad := fun _ _ => 0) hb).1
theorem q_keep {K : Nat → Bool} (hK : q_clK K) {pr : Nat → Nat → Option Op} {n : Nat} : ∀ (f d k pc : Nat) (L : PL) (st : List PV) (σ : J) (r : Res), q_run pr n d f k pc L st σ = some r → q_kL K L → q_kst K st → q_kp K σ r := by
  intro f
  induction f with
  | zero => intro d k pc L st σ r h; cases h
  | succ f ih =>
    intro d k pc L st σ r h hL hst
    unfold q_run at h
    cases ho : pr k pc with
    | none => rw [ho] at h; cases h
    | some o =>
      rw [ho] at h
      obtain ⟨ci, ox, oa, ob, ol⟩ := o
      refine q_kstp (σ0 := σ) hK (fun pc' L' st' σ' h hs hL hst => ?_) (fun k' vs σ' z hz hv => ?_) q_sm.rf hL hst h
      · have h2 := ih d k pc' L' st' σ' r h hL hst
        exact ⟨hs.tr h2.1, h2.2⟩
      · cases d with
        | zero => cases hz
        | succ d => exact ih d k' 0 _ [] σ' z hz (q_kargs hv) trivial
/-- the class's kinds, the reference's kinds -/
def q_KC (k : Nat) : Bool := Nat.blt k 23
def q_KM (k : Nat) : Bool := Nat.blt 23 k && Nat.blt k 63
def q_clB2 (K : Nat → Bool) : Bool := (List.range q_kot.length).all (fun k => !K k || match q_ko k with
  | none => true
  | some w => w.2.all fun d => Nat.blt d.1 2 || K d.2.1) && (List.range q_kat.length).all (fun k => !K k || match q_ka k with
  | none => true
  | some w => Nat.blt w.1 3 || K w.2.1)
theorem q_clK_of {K : Nat → Bool} (h : q_clB2 K = true) : q_clK K := by
  unfold q_clB2 at h
  rw [Bool.and_eq_true] at h
  constructor
  · intro k w hw hk d hd h2
    have h1 := List.all_eq_true.mp h.1 k (List.mem_range.mpr (q_ko_lt hw))
    rw [hk, hw] at h1
    have h3 := List.all_eq_true.mp (show (w.2.all fun d => Nat.blt d.1 2 || K d.2.1) = true from h1) d hd
    rw [Bool.or_eq_true] at h3
    rcases h3 with h3 | h3
    · exact absurd (Nat.blt_eq.mp h3) h2
    · exact h3
  · intro k w hw hk h2
    have hlt : k < q_kat.length := by
      apply Nat.lt_of_not_le
      intro hle
      unfold q_ka at hw
      rw [List.getD_eq_getElem?_getD, List.getElem?_eq_none hle] at hw
      cases hw
    have h1 := List.all_eq_true.mp h.2 k (List.mem_range.mpr hlt)
    rw [hk, hw] at h1
    have h3 : (Nat.blt w.1 3 || K w.2.1) = true := h1
    rw [Bool.or_eq_true] at h3
    rcases h3 with h3 | h3
    · have := Nat.blt_eq.mp h3
      omega
    · exact h3
theorem q_clC : q_clK q_KC := q_clK_of (by decide)
theorem q_clM : q_clK q_KM := q_clK_of (by decide)
/-- what a run of the class leaves alone; what a run of the reference leaves alone -/
theorem q_ex_C {n d k : Nat} {vs : List PV} {σ : J} {r : Res} (h : q_ex q_pr n d k 0 (q_args 0 vs) [] σ r) (hv : q_kst q_KC vs) : q_sm q_KC σ r.2 := by
  obtain ⟨f, hf⟩ := h
  exact (q_keep q_clC f d k 0 _ [] σ r hf (q_kargs hv) trivial).1
theorem q_ex_M {n d k : Nat} {vs : List PV} {σ : J} {r : Res} (h : q_ex q_pr n d k 0 (q_args 0 vs) [] σ r) (hv : q_kst q_KM vs) : q_sm q_KM σ r.2 := by
  obtain ⟨f, hf⟩ := h
  exact (q_keep q_clM f d k 0 _ [] σ r hf (q_kargs hv) trivial).1
end
section
/-! Throwing: a fresh exception leaves a method; a call that throws. Ours. -/
section REB
variable {p : Program} {l : Launch} {e : Env} {R : Room} {s : State} {m : MethodId} {args : Array Value} {below : List Frame} {meth : Method} {c : Code} {T : State} {locs : List Loc} {cells slots : Nat}
/-- the invocation's state with the heap as it is now: from there on nothing has been written -/
abbrev q_now (s T : State) : State := { s with heap := T.heap, slotsUsed := T.slotsUsed }
theorem q_rebase (X : Stand p l e R s m args below meth c T locs cells slots) {a b : Nat} (hc : cells + a ≤ R.cells) (hs : slots + b ≤ R.slots) :
    Stand p l e { frames := R.frames, cells := a, slots := b, locals := R.locals } (q_now s T) m args below meth c T [] 0 0 := by
  have hroom : (q_now s T).hasRoom e.platform { frames := R.frames, cells := a, slots := b, locals := R.locals } = true := by
    have h := X.room
    have h1 := X.heapSize
    have h2 := X.used
    have h3 := X.book
    simp only [State.hasRoom, Bool.and_eq_true, decide_eq_true_eq] at h ⊢
    obtain ⟨⟨⟨⟨g1, g2⟩, g3⟩, g4⟩, g5⟩ := h
    refine ⟨⟨⟨⟨g1, g2⟩, ?_⟩, ?_⟩, h3⟩
    · show T.heap.size + a ≤ _
      omega
    · show T.slotsUsed + b ≤ _
      omega
  refine ⟨X.admits, X.cas, X.clock, X.frames, hroom, X.hears, X.method, X.code, X.here, X.tail, X.warmed, X.limits, X.bytes, ?_⟩
  obtain ⟨e2, q2, q3, q4, q5, q6⟩ := X.same
  refine ⟨e2, Nat.le_refl _, Nat.le_refl _, ?_, ?_, fun a c h => ⟨c, h, rfl, rfl, fun _ _ => rfl⟩⟩
  · show T.slotsUsed = T.slotsUsed + ((T.heap.toList.drop T.heap.size).map (·.slots.size)).sum
    rw [List.drop_eq_nil_of_le (by simp)]
    rfl
  · show ((T.heap.toList.drop T.heap.size).map (·.slots.size)).sum ≤ 0
    rw [List.drop_eq_nil_of_le (by simp)]
    exact Nat.le_refl _
end REB
/-- a word that holds at U and wherever the tables are warmer and no cell outside of A has changed -/
def q_Sw (A : Nat → Prop) (w : Cond) (U : State) : Prop := ∀ (a : Array Value) (U' : State), U.WarmedH U'.vm → (∀ q, q < U.heap.size → ¬ A q → U'.heap[q]? = U.heap[q]?) → w.before a U' = true
theorem q_Sw.go {A : Nat → Prop} {w : Cond} {U V : State} (h : q_Sw A w U) (hW : U.WarmedH V.vm) (hz : U.heap.size ≤ V.heap.size) (hk : ∀ q, q < U.heap.size → ¬ A q → V.heap[q]? = U.heap[q]?) : q_Sw A w V := fun a U' hW' hk' => h a U' (State.WarmedH.trans hW hW') (fun q h1 h2 => (hk' q (Nat.lt_of_lt_of_le h1 hz) h2).trans (hk q h1 h2))
def q_xw (k : Nat) : List Cond := Bundle.ownAtoms0 "JobBoard" (q_xi k) (q_xn k) ["java/lang/RuntimeException", "java/lang/Exception"]
def q_Th (A : Nat → Prop) (U : State) : Prop := ∀ k, 1 ≤ k → k ≤ 4 → ∀ w ∈ q_xw k, q_Sw A w U
def q_FX (s t : State) (L : List Loc) (k n : Nat) : Prop := s.WarmedH t.vm ∧ s.sameButNew ({ t with vm := s.vm } : State) L k n
def q_MX (below : List Frame) (Qx : State → Addr → State → Prop) (s : State) (mc ms : Nat) (free : Addr → Prop) : State → Prop := fun t => ∃ x, t.status = .running ∧ Ended t below (.threw x) ∧ Qx s x t ∧ ∃ L, q_FX s t L mc ms ∧ ∀ q ∈ L, free q.base
def q_QX (D : va_G) (cy : Nat → ClassId) (ad : Nat → Nat → Nat) (n : Nat) (A : Nat → Prop) (ex : Nat) (σ : J) : State → Addr → State → Prop := fun st x t => WJ D cy ad n σ t.heap ∧ va_F A st t ∧ st.heap.size ≤ x ∧ ∃ ce : Cell, t.heap[x]? = some ce ∧ ce.vm = .none ∧ t.vm.findClass (q_xn ex) = some ce.cls
section THR
variable {mt : Nat → MRow} {p : Program} {l : Launch} {e : Env} {R : Room} {s : State} {m : MethodId} {args : Array Value} {below : List Frame} {meth : Method} {c : Code} {D : va_G} {cy : Nat → ClassId} {ad : Nat → Nat → Nat} {n k cells slots pc : Nat} {A : Nat → Prop} {σ : J}
theorem q_xfit : ∀ k, Bundle.fit (q_xn k) = true := by
  intro k
  match k with
  | 0 => decide +kernel
  | 1 => decide +kernel
  | 2 => decide +kernel
  | 3 => decide +kernel
  | _ + 4 => exact (by decide +kernel : Bundle.fit "java/lang/UnsupportedOperationException" = true)
theorem q_thr (cx : q_Cx mt p s m meth c args k D cy n ad A R cells slots) (hTh : q_Th A s) (htr : ∀ e, l.admits e → e.platform.stackTraces = false) {ex : Nat} (hx1 : 1 ≤ ex) (hx4 : ex ≤ 4) (hown : (mt k).1.cls = "JobBoard")
    (w1 : Cond.classLink "JobBoard" (q_xc ex) (q_xn ex) ∈ gt) (w2 : Cond.instantiable (q_xn ex) 6 ∈ gt) (w3 : Cond.initialized (q_xn ex) ∈ gt)
    (d0 : decode (mt k).2.1 pc = .ok (.new (q_xc ex), 3)) (d3 : decode (mt k).2.1 (pc + 3) = .ok (.dup, 1)) (d4 : decode (mt k).2.1 (pc + 4) = .ok (.invokespecial (q_xi ex), 3)) (d7 : decode (mt k).2.1 (pc + 7) = .ok (.athrow, 1))
    (hnh : ∀ x ∈ c.exceptionTable.toList, covers x (pc + 7) = false) (hc : cells + 1 ≤ R.cells) (hs : slots + 6 ≤ R.slots) (hfr : 6 ≤ R.frames) (hlo : 90 ≤ R.locals)
    {H : Heap} {locs : List Loc} {ls : Array Slot} (hP : WJ D cy ad n σ H) (hS : va_S A s.heap H locs) (hsz : ls.size = (mt k).2.2.1) :
    W p l e R s m args below meth c H locs cells slots (q_MX below (q_QX D cy ad n A ex σ) s (cells + 1) (slots + 6) A) (F0 m pc ls []) := by
  intro T hT X
  have X' := q_rebase X hc hs
  have ho : s.vm.findClass "JobBoard" = some m.cls := by rw [← hown]; exact cx.2.2.2.1
  have hsW : s.WarmedH (q_now s T).vm := State.WarmedH.refl s
  have hw : ∀ w ∈ gt, w.before args (q_now s T) = true := fun w h => word_at hsW (good_of_word (gt_good w h)) (cx.2.2.2.2.1 w h)
  have hat : ∀ a ∈ q_xw ex, a.before args (q_now s T) = true := fun w h => hTh ex hx1 hx4 w h args (q_now s T) hsW (fun q h1 h2 => by
    show T.heap[q]? = s.heap[q]?
    rw [hT]
    exact hS.2.1 q h1 h2)
  have key : W p l e { frames := R.frames, cells := 1, slots := 6, locals := R.locals } (q_now s T) m args below meth c T.heap [] 0 0 (fun U => ∃ x, U.status = .running ∧ Ended U below (.threw x) ∧ (q_now s T).WarmedH U.vm ∧ (q_now s T).sameButNew ({ U with vm := (q_now s T).vm } : State) [] 1 6 ∧ T.heap.size ≤ x ∧ ∃ ce : Cell, U.heap[x]? = some ce ∧ Bundle.OwnCell args (q_now s T) (q_xn ex) x .null ce) (F0 m pc ls []) := by
    refine W.newc (n := 6) (s := q_now s T) (args := args) (g := F0 m pc ls []) (cc := (mt k).2.1) (R := { frames := R.frames, cells := 1, slots := 6, locals := R.locals }) (cells := 0) (slots := 0) cx.1 cx.2.1 ho (hw _ w1) (hw _ w2) (hw _ w3) rfl d0 (by show 0 + 1 ≤ 1; decide) (by show 0 + 6 ≤ 6; decide) (fun cC kC h1 h2 h3 h4 => ?_)
    refine lv_dup cx.1 cx.2.1 d3 rfl ?_
    intro T2 hT2 X2
    obtain ⟨U, st, hrun, hend, hW, hsame, ce, hce, hown2⟩ := X2.ctorThrow0 cx.1 (htr e X.admits) (own := "JobBoard") (cls := q_xn ex) (names := ["java/lang/RuntimeException", "java/lang/Exception"]) (ic := q_xi ex) ho (q_xfit ex) (by decide +kernel) hat (fun x hx => by cases hx)
      (a := T.heap.size) h1 h2 (by rw [hT2]; simp) (Nat.le_refl _) (g := F0 m (pc + 3 + 1) ls [.ref T.heap.size, .ref T.heap.size]) rfl (by rw [cx.2.2.1]; exact hsz) rfl rfl (rest := []) rfl (by rw [cx.2.1]; exact d4) (by rw [cx.2.1]; exact d7) hnh (by show 2 + 3 < R.frames; omega) (by
        show 2 * 0 + (1 + 0) + (13 * (2 + 1) + 41) ≤ R.locals
        omega) cx.2.2.2.2.2.2.2.1
    exact ⟨U, st, T.heap.size, hrun, hend, hW, hsame, Nat.le_refl _, ce, hce, hown2⟩
  obtain ⟨U, st, x, hrun, hend, hW, hsame, hx, ce, hce, hoc⟩ := key T rfl X'
  have hold : ∀ (q : Nat) (cl : Cell), T.heap[q]? = some cl → U.heap[q]? = some cl := fun q cl h => State.sameButNew.old_cell hsame h
  have hsz2 : T.heap.size ≤ U.heap.size := hsame.2.1
  have hkeep : ∀ q, q < T.heap.size → U.heap[q]? = T.heap[q]? := fun q hq => by
    rw [Array.getElem?_eq_getElem hq]
    exact hold q _ (Array.getElem?_eq_getElem hq)
  refine ⟨U, st, x, hrun, hend, ⟨hP.kept (fun k' q hq => ?_), ⟨?_, fun q h1 h2 => ?_⟩, ?_, ce, hce, hoc.vm, ?_⟩, locs, ⟨hW, ?_⟩, hS.2.2⟩
  · have := (hP k' q hq).lt
    rw [← hT] at this ⊢
    exact hkeep _ this
  · rw [← hT] at hS
    exact Nat.le_trans hS.1 hsz2
  · rw [← hT] at hS
    rw [hkeep q (Nat.lt_of_lt_of_le h1 hS.1)]
    exact hS.2.1 q h1 h2
  · rw [← hT] at hS
    exact Nat.le_trans hS.1 hx
  · rw [hW.alike.findClass]
    exact hoc.cls
  · have h2 : (T.setVm s.vm).sameButNew ({ U with vm := s.vm } : State) [] 1 6 := by
      obtain ⟨e2, q2, q3, q4, q5, q6⟩ := hsame
      refine ⟨?_, q2, q3, q4, q5, q6⟩
      have e1 := X.same.1
      refine e2.trans ?_
      rw [e1]
      show _ = ({ (({ s.setFrames (T.setVm s.vm).frames with heap := T.heap, slotsUsed := T.slotsUsed } : State).setFrames U.frames) with heap := U.heap, slotsUsed := U.slotsUsed } : State)
      have e3 : (({ s.setFrames (T.setVm s.vm).frames with heap := T.heap, slotsUsed := T.slotsUsed } : State).setFrames U.frames) = ({ (s.setFrames (T.setVm s.vm).frames).setFrames U.frames with heap := T.heap, slotsUsed := T.slotsUsed } : State) := rfl
      rw [e3, State.setFrames_setFrames]
      rfl
    have h3 := X.same.trans h2
    rw [List.append_nil] at h3
    exact h3
end THR
end
section
/-! Contracts of methods that throw, and calls of them. Ours. -/
def q_Mx (l : Launch) (y : MethodName) (ws : List Cond) (rm : Room) (Pc : Array Value → State → Prop) (Qx : State → Addr → State → Prop) (mc ms : Nat) (free : Addr → Prop) : Prop :=
  MetFree l y (headSpec ws rm) Pc (fun _ _ _ _ _ => True) (fun _ st o t => ∃ x, o = .threw x ∧ Qx st x t ∧ ∃ L, q_FX st t L mc ms ∧ ∀ q ∈ L, free q.base)
theorem q_Mx.ofW {l : Launch} {y : MethodName} {ws ws' : List Cond} {rm : Room} {Pc : Array Value → State → Prop} {Qx : State → Addr → State → Prop} {mc ms : Nat} {free : Addr → Prop} {cc : ByteArray} {maxL : Nat} {ret : Option FieldType}
    (hy : plainName y.cls = true) (hw : ws = Cond.code y cc maxL ret :: ws')
    (body : ∀ p e s m args below meth c s₁, BodyLoose p l y (headSpec ws rm) cc maxL ret e s m args below meth c s₁ → c.maxLocals = maxL → Pc args s →
      W p l e (headSpec ws rm).room s m args below meth c s.heap [] 0 0 (q_MX below Qx s mc ms free) (entryFrame m args maxL)) : q_Mx l y ws rm Pc Qx mc ms free := by
  refine MetFree.of_bodyS (code := cc) (maxLocals := maxL) (ret := ret) hy ?_ ?_
  · intro args s m h hn
    obtain ⟨meth, c, h1, h2, h3, h4, h5, h6, -, -⟩ := Cond.code_spec hn (atoms_spec (ws := ws) h _ (by rw [hw]; exact List.mem_cons_self))
    exact ⟨meth, c, h1, h2, h3, h4, h5, h6⟩
  · intro p e s m args below meth c s₁ B hml hP _
    have hh0 : s₁.heap = s.heap := by rw [B.state]; rfl
    obtain ⟨t, a1, x, b1, b2, b3, b4⟩ := body p e s m args below meth c s₁ B hml hP s₁ hh0 (Stand.of_body B)
    exact ⟨t, .threw x, a1, b1, b2, x, rfl, b3, b4⟩
section CX
variable {p : Program} {l : Launch} {e : Env} {R : Room} {s : State} {m : MethodId} {sargs : Array Value} {below : List Frame} {meth : Method} {c : Code} {U : State} {locs : List Loc} {cells slots : Nat}
/-- behind an invoking instruction whose method throws: the note lies over the caller's frame -/
theorem q_comeX (X : Stand p l e R s m sargs below meth c U locs cells slots) {g : JFrame} (hg : g.method = m) (hsize : g.locals.size = c.maxLocals) {ig : Instr} {len : Nat} (hdg : decode c.code g.pc = .ok (ig, len)) (hW : 2 * g.monitorRoom + (g.stack.map fun v => v.category).sum ≤ 8)
    {y : MethodName} {bytes : ByteArray} {maxL mc ms : Nat} {ret : Option FieldType} {ws : List Cond} {rm : Room} {Pc : Array Value → State → Prop} {Qx : State → Addr → State → Prop} {free : Addr → Prop} (hM : q_Mx l y ws rm Pc Qx mc ms free)
    {mk : MethodId} {a : Array Value} (hn : U.methodNamed? y = some mk) (hfr : rm.frames + 1 ≤ R.frames) (hlo : 8 + (maxL + 11) + rm.locals ≤ R.locals) (hws : ∀ w ∈ ws, w.before a U = true) (hcw : Cond.code y bytes maxL ret ∈ ws) (hini : (Cond.initialized y.cls).before a U = true)
    (hc : cells + rm.cells ≤ R.cells) (hs : slots + rm.slots ≤ R.slots) (hP : Pc a (U.calling g mk a)) :
    ∃ (x : Addr) (T' t : State) (L : List Loc), Stand p l e R s m sargs below meth c T' (locs ++ L) (cells + mc) (slots + ms) ∧ T'.heap = t.heap ∧ T'.vm = t.vm ∧ Qx (U.calling g mk a) x t ∧ (∀ q ∈ L, free q.base) ∧
      ∀ target, Steps p.tables e below ((T'.setTop g).pushFrame (.throwing x)) target → Steps p.tables e below (doInvoke e (U.setTop g) [] mk a).1 target := by
  obtain ⟨methY, cY, hmY, hcY, -, hlY, -, -, -, -⟩ := Cond.code_spec hn (hws _ hcw)
  obtain ⟨kY, hkY, -⟩ := className_of_methodNamed hn
  have hinitY : kY.init = .initialized := Cond.initialized_spec (findClass_of_methodNamed hn) hkY hini
  have h : At U g.method c below := by rw [hg]; exact X.here
  have happ : (headSpec ws rm).appliesLoose y e.platform (U.calling g mk a) = true :=
    Spec.appliesLoose_calling (g := g) h hdg hn hkY hinitY (X.room_calling (g := g) (R' := rm) hsize hmY hcY hfr (by rw [hlY]; omega) hc hs) (atoms_intro hws)
  obtain ⟨mid, hmid⟩ := h.above
  have hfr2 : (U.setTop g).frames = (.java g :: mid) ++ below := by rw [State.frames_setTop' g h.top, hmid]; rfl
  obtain ⟨o, s₂, hsteps, -, hend, hq⟩ := Steps.callFree hM p X.admits X.cas X.clock (acts := []) hfr2 happ hP trivial
  obtain ⟨x, rfl, hqx, L, ⟨hW2, hsame⟩, hL⟩ := hq
  rw [State.frames_setTop' g h.top, X.tail] at hend
  obtain ⟨T', X', hW', hB, ht⟩ := X.outOfThrown hg (mk := mk) (a := a) hend hW2 hsame
  refine ⟨x, T', s₂, L, X', ?_, ?_, hqx, hL, fun target hst => ?_⟩
  · rw [ht]
    exact (Stand.throwing_heap T' g x).symm
  · rw [ht]
    exact (Stand.throwing_vm T' g x).symm
  · rw [← ht] at hst
    exact hsteps.trans hst
end CX
end
section
/-! Runs of the interpreter that end in an exception are runs of the machine that throw. Ours, written by runx.py -/
def q_CX (l : Launch) (mt : Nat → MRow) (rm : Room) (D : va_G) (cy : Nat → ClassId) (ad : Nat → Nat → Nat) (n : Nat) (A : Nat → Prop) (k : Nat) (vs : List PV) (σ : J) (ex : Nat) (σ1 : J) : Prop :=
  q_Mx l (mt k).1 (Cond.code (mt k).1 (mt k).2.1 (mt k).2.2.1 (mt k).2.2.2 :: gt) rm (va_Pc (vs.map (q_tv ad)) (fun U => WJ D cy ad n σ U.heap ∧ va_K D vcl (q_ty cy) U ∧ q_Th A U)) (q_QX D cy ad n A ex σ1) 1 6 A
theorem q_af_or {n : Nat} {g : List PV → J → Option Res} {rest : List PV} {z r : Res} (h : q_af n g rest z = some r) : (∃ v σ1, z = (.inl v, σ1) ∧ (∀ w, v = some w → q_ok n w = true) ∧ g (v.toList ++ rest) σ1 = some r) ∨ ∃ ex σ1, z = (.inr ex, σ1) ∧ r = (.inr ex, σ1) := by
  obtain ⟨v | ex, σ1⟩ := z
  · left
    cases v with
    | none => exact ⟨none, σ1, rfl, (fun w hw => by cases hw), h⟩
    | some v =>
      obtain ⟨h1, h2⟩ := q_bf (show (bif q_ok n v then g (v :: rest) σ1 else none) = some r from h)
      exact ⟨some v, σ1, rfl, (fun w hw => by cases hw; exact h1), h2⟩
  · have h : some (Sum.inr ex, σ1) = some r := h
    exact Or.inr ⟨ex, σ1, rfl, (Option.some.inj h).symm⟩
theorem q_Th.go {A : Nat → Prop} {U V : State} (h : q_Th A U) (hW : U.WarmedH V.vm) (hz : U.heap.size ≤ V.heap.size) (hk : ∀ q, q < U.heap.size → ¬ A q → V.heap[q]? = U.heap[q]?) : q_Th A V := fun k h1 h2 w hw => (h k h1 h2 w hw).go hW hz hk
def q_x3 (k : Nat) : List Cond := [Cond.classLink "JobBoard" (q_xc k) (q_xn k), Cond.instantiable (q_xn k) 6, Cond.initialized (q_xn k)]
theorem q_x3_in : ∀ k, 1 ≤ k → k ≤ 4 → ∀ w ∈ q_x3 k, w ∈ gt := by
  intro k h1 h4 w hw
  have h : ((List.range 5).all fun k => (Nat.beq k 0) || (q_x3 k).all fun w => decide (w ∈ lw_tbl) && goodWord w) = true := by decide +kernel
  have h2 := List.all_eq_true.mp h k (List.mem_range.mpr (by omega))
  rw [Bool.or_eq_true] at h2
  rcases h2 with h2 | h2
  · have := Nat.eq_of_beq_eq_true h2
    omega
  · have h3 := List.all_eq_true.mp h2 w hw
    rw [Bool.and_eq_true] at h3
    exact gt_of (of_decide_eq_true h3.1) h3.2
section SNX
variable {mt : Nat → MRow} {p : Program} {l : Launch} {e : Env} {R : Room} {s : State} {m : MethodId} {args : Array Value} {below : List Frame} {meth : Method} {c : Code} {D : va_G} {cy : Nat → ClassId} {ad : Nat → Nat → Nat} {n k cells slots pc : Nat} {A : Nat → Prop} {g : Nat → PL → List PV → J → Option Res} {cal : Nat → List PV → J → Option Res} {r : Res} {L : PL} {st : List PV} {σ : J} {ox : Int} {oa ob : Nat} {ol : List Nat} {ex : Nat} {σx : J}
theorem q_toX {T : State} {H : Heap} {vm₁ : Vm} {locs : List Loc} {g0 g1 : JFrame} {k1 : Nat} {vs : List PV} {σ : J} {mk : MethodId} {ig : Instr} {rmx : Room} (cx : q_Cx mt p s m meth c args k D cy n ad A R cells slots) (hTh : q_Th A s) (hc1 : cells + 1 ≤ R.cells) (hs6 : slots + 6 ≤ R.slots) (hrx : rmx.cells = 1 ∧ rmx.slots = 6 ∧ rmx.frames + 1 ≤ R.frames ∧ 49 + rmx.locals ≤ R.locals)
    (hT : T.heap = H) (hP : WJ D cy ad n σ H) (hS : va_S A s.heap H locs) (X₁ : Stand p l e R s m args below meth c (T.setVm vm₁) locs cells slots) (hg1 : g1.method = m) (hsz : g1.locals.size = c.maxLocals) (hdg : decode c.code g1.pc = .ok (ig, 3)) (hW : 2 * g1.monitorRoom + (g1.stack.map fun v => v.category).sum ≤ 8)
    (hM : q_CX l mt rmx D cy ad n A k1 vs σ ex σx) (hn : (T.setVm vm₁).methodNamed? (mt k1).1 = some mk) (h30 : (mt k1).2.2.1 ≤ 30) (wc : Cond.code (mt k1).1 (mt k1).2.1 (mt k1).2.2.1 (mt k1).2.2.2 ∈ gt) (wi : Cond.initialized (mt k1).1.cls ∈ gt)
    (hstep : ∀ target, (∀ acts, Steps p.tables e below (doInvoke e ((T.setVm vm₁).setTop g1) acts mk (vs.map (q_tv ad)).toArray).1 target) → Steps p.tables e below (T.setTop g0) target) :
    ∃ (x : Addr) (T' : State) (L : List Loc), Stand p l e R s m args below meth c T' (locs ++ L) (cells + 1) (slots + 6) ∧ WJ D cy ad n σx T'.heap ∧ va_S A s.heap T'.heap (locs ++ L) ∧ s.heap.size ≤ x ∧ (∃ ce : Cell, T'.heap[x]? = some ce ∧ ce.vm = .none ∧ T'.vm.findClass (q_xn ex) = some ce.cls) ∧ ∀ target, Steps p.tables e below ((T'.setTop g1).pushFrame (.throwing x)) target → Steps p.tables e below (T.setTop g0) target := by
  have hw : ∀ w ∈ (Cond.code (mt k1).1 (mt k1).2.1 (mt k1).2.2.1 (mt k1).2.2.2 :: gt), w.before (vs.map (q_tv ad)).toArray (T.setVm vm₁) = true := fun w h => by
    have hg := gi_1 wc w h
    exact word_at X₁.warmed hg.2 (cx.2.2.2.2.1 w hg.1)
  have hkeep : ∀ q, q < s.heap.size → ¬ A q → (T.setVm vm₁).heap[q]? = s.heap[q]? := fun q h1 h2 => by
    show T.heap[q]? = _
    rw [hT]
    exact hS.2.1 q h1 h2
  have hz : s.heap.size ≤ (T.setVm vm₁).heap.size := by
    show _ ≤ T.heap.size
    rw [hT]
    exact hS.1
  have hTh1 : q_Th A (T.setVm vm₁) := hTh.go X₁.warmed hz hkeep
  obtain ⟨x, T', t, L, X', e1, e2, ⟨hw1, hf1, hx1, ce, hce, hcv, hcc⟩, hL, st⟩ := q_comeX X₁ (y := (mt k1).1) (bytes := (mt k1).2.1) (maxL := (mt k1).2.2.1) (ret := (mt k1).2.2.2) hg1 hsz hdg hW hM hn hrx.2.2.1 (by have := hrx.2.2.2; omega) hw List.mem_cons_self (word_at X₁.warmed (good_of_word (gt_good _ wi)) (cx.2.2.2.2.1 _ wi)) (by rw [hrx.1]; exact hc1) (by rw [hrx.2.1]; exact hs6)
    ⟨rfl, by show WJ D cy ad n σ T.heap; rw [hT]; exact hP, va_K.moved (u := s) X₁.warmed.alike cx.2.2.2.2.2.1, hTh1⟩
  have hf2 : T.heap.size ≤ t.heap.size := hf1.1
  rw [hT] at hf2
  refine ⟨x, T', L, X', by rw [e1]; exact hw1, ⟨by rw [e1]; exact Nat.le_trans hS.1 hf2, fun q h1 h2 => ?_, fun q hq => ?_⟩, ?_, ⟨ce, by rw [e1]; exact hce, hcv, by rw [e2]; exact hcc⟩, fun target h => hstep _ (fun acts => by rw [doInvoke_state]; exact st _ h)⟩
  · rw [e1, hf1.2 q (by show q < T.heap.size; rw [hT]; exact Nat.lt_of_lt_of_le h1 hS.1) h2]
    show T.heap[q]? = _
    rw [hT]
    exact hS.2.1 q h1 h2
  · rcases List.mem_append.mp hq with h | h
    · exact hS.2.2 q h
    · exact hL q h
  · have : T.heap.size ≤ x := hx1
    rw [hT] at this
    exact Nat.le_trans hS.1 this
theorem q_endX {T : State} {H : Heap} {vm₁ : Vm} {locs : List Loc} {g0 g1 : JFrame} {k1 : Nat} {vs : List PV} {σ : J} {mk : MethodId} {ig : Instr} {rmx : Room} (cx : q_Cx mt p s m meth c args k D cy n ad A R cells slots) (hTh : q_Th A s) (hnh : ∀ pc, ∀ x ∈ c.exceptionTable.toList, covers x pc = false) (hc1 : cells + 1 ≤ R.cells) (hs6 : slots + 6 ≤ R.slots) (hrx : rmx.cells = 1 ∧ rmx.slots = 6 ∧ rmx.frames + 1 ≤ R.frames ∧ 49 + rmx.locals ≤ R.locals)
    (hT : T.heap = H) (hP : WJ D cy ad n σ H) (hS : va_S A s.heap H locs) (X₁ : Stand p l e R s m args below meth c (T.setVm vm₁) locs cells slots) (hg1 : g1.method = m) (hsz : g1.locals.size = c.maxLocals) (hlk : g1.locked = none) (hen : g1.entered = []) (hdg : decode c.code g1.pc = .ok (ig, 3)) (hW : 2 * g1.monitorRoom + (g1.stack.map fun v => v.category).sum ≤ 8)
    (hM : q_CX l mt rmx D cy ad n A k1 vs σ ex σx) (hn : (T.setVm vm₁).methodNamed? (mt k1).1 = some mk) (h30 : (mt k1).2.2.1 ≤ 30) (wc : Cond.code (mt k1).1 (mt k1).2.1 (mt k1).2.2.1 (mt k1).2.2.2 ∈ gt) (wi : Cond.initialized (mt k1).1.cls ∈ gt)
    (hstep : ∀ target, (∀ acts, Steps p.tables e below (doInvoke e ((T.setVm vm₁).setTop g1) acts mk (vs.map (q_tv ad)).toArray).1 target) → Steps p.tables e below (T.setTop g0) target) : ∃ t, Steps p.tables e below (T.setTop g0) t ∧ q_MX below (q_QX D cy ad n A ex σx) s (cells + 1) (slots + 6) A t := by
  obtain ⟨x, T', L, X', hw1, hS', hx1, ⟨ce, hce, hcv, hcc⟩, st⟩ := q_toX cx hTh hc1 hs6 hrx hT hP hS X₁ hg1 hsz hdg hW hM hn h30 wc wi hstep
  obtain ⟨hwalk, hrun, hended, hWU, hsame⟩ := X'.leaveThrown x hg1 hlk hen (hnh g1.pc) cx.2.2.2.2.2.2.2.1
  exact ⟨_, st _ hwalk, x, hrun, hended, ⟨hw1, ⟨hS'.1, hS'.2.1⟩, hx1, ce, hce, hcv, hcc⟩, locs ++ L, ⟨hWU, hsame⟩, hS'.2.2⟩
theorem z_67x (cx : q_Cx mt p s m meth c args k D cy n ad A R cells slots) (hTh : q_Th A s) (htr : ∀ e, l.admits e → e.platform.stackTraces = false) (hnh : ∀ pc, ∀ x ∈ c.exceptionTable.toList, covers x pc = false) (hc1 : cells + 1 ≤ R.cells) (hs6 : slots + 6 ≤ R.slots)  (hg : ∀ pc L st σ, g pc L st σ = some (.inr ex, σx) → q_W mt p l e R s m args below meth c (q_MX below (q_QX D cy ad n A ex σx) s (cells + 1) (slots + 6) A) D cy ad n A k cells slots pc L st σ){rm : Room} (hrm : rm.cells = 0 ∧ rm.slots = 0 ∧ rm.frames + 1 ≤ R.frames ∧ 49 + rm.locals ≤ R.locals) (hcl : ∀ k1 vs τ v τ1, cal k1 vs τ = some (.inl v, τ1) → (vs.map q_cat).sum ≤ (mt k1).2.2.1 → q_oks n vs → q_CT l mt rm D cy ad n A k1 vs τ v τ1) {rmx : Room} (hrx : rmx.cells = 1 ∧ rmx.slots = 6 ∧ rmx.frames + 1 ≤ R.frames ∧ 49 + rmx.locals ≤ R.locals) (hcx : ∀ k1 vs τ ex τ1, cal k1 vs τ = some (.inr ex, τ1) → (vs.map q_cat).sum ≤ (mt k1).2.2.1 → q_oks n vs → q_CX l mt rmx D cy ad n A k1 vs τ ex τ1) (ho : q_okB mt k pc (67, ox, oa, ob, ol) = true) (h : q_stp n g cal pc (67, ox, oa, ob, ol) L st σ = some (.inr ex, σx)) : q_W mt p l e R s m args below meth c (q_MX below (q_QX D cy ad n A ex σx) s (cells + 1) (slots + 6) A) D cy ad n A k cells slots pc L st σ := by
  replace ho : (q_dc (mt k).2.1 pc (.invokevirtual oa) 3 && q_wd (ol.getD 3 0) (.methodLink (mt k).1.cls oa (mt ob).1) && q_wd (ol.getD 4 0) (.instanceMethod (mt ob).1) && q_wd (ol.getD 5 0) (.selects (q_cl (ol.getD 1 0)).1 (mt ob).1 (mt ob).1) && q_wd (ol.getD 6 0) (.initialized (q_cl (ol.getD 1 0)).1) && q_wd (ol.getD 7 0) (.code (mt ob).1 (mt ob).2.1 (mt ob).2.2.1 (mt ob).2.2.2) && q_ny (mt ob).1 (q_cl (ol.getD 1 0)).1 (ol.getD 0 0) && Nat.ble (mt ob).2.2.1 30 && Nat.ble (ol.getD 2 0 + 1) (mt ob).2.2.1) = true := ho
  simp only [Bool.and_eq_true] at ho
  obtain ⟨⟨⟨⟨⟨⟨⟨⟨o1, o2⟩, o3⟩, o4⟩, o5⟩, o6⟩, o7⟩, o8⟩, o9⟩ := ho
  replace h : ((q_pop (ol.getD 0 0) st).bind fun a => (q_pR a.2).bind fun q => (q_ko q.1.1).bind fun w => bif Nat.beq w.1 (ol.getD 1 0) && (q_rm q.2 && Nat.beq ((a.1.map q_cat).sum) (ol.getD 2 0)) then (cal ob (.inr (.inr (some q.1)) :: a.1) σ).bind (q_af n (fun st' σ' => g (pc + 3) L st' σ') q.2) else none) = some (.inr ex, σx) := h
  obtain ⟨a, e_a, h⟩ := Option.bind_eq_some_iff.mp h
  obtain ⟨q, e_q, h⟩ := Option.bind_eq_some_iff.mp h
  obtain ⟨w, e_w, h⟩ := Option.bind_eq_some_iff.mp h
  obtain ⟨hb, h⟩ := q_bf h
  obtain ⟨z, e_z, h⟩ := Option.bind_eq_some_iff.mp h
  simp only [Bool.and_eq_true] at hb
  rcases q_af_or h with ⟨v, σ1, rfl, hv, h⟩ | ⟨ex', σ1, rfl, hr⟩
  · exact c_67 cx hg hrm hcl o1 o2 o3 o4 o5 o6 o7 o8 o9 e_a e_q e_w hb e_z hv h
  cases hr
  obtain ⟨e1, e2⟩ := q_pop_s _ e_a
  rw [q_pR_s e_q] at e1
  have hci := Nat.eq_of_beq_eq_true hb.1
  have hwd := Nat.eq_of_beq_eq_true hb.2.2
  rw [← hci] at o4 o5 o7
  have hc := q_kB_at e_w
  have hny := of_decide_eq_true o7
  intro H locs ls hP hS hl hL hst
  have hst2 := q_oks_iff.mp hst
  rw [e1] at hst2
  have hq : q_ok n (.inr (.inr (some q.1))) = true := hst2 _ (by simp)
  have hi : (q.1.1, q.1.2) ∈ idj n := q_ok_in hq (q_ko_ne e_w)
  obtain ⟨t, ht0, ht⟩ := wl_at (ad := ad) (cn := cj cy ad n σ) hi
  rw [cj_o e_w] at ht
  have hM := hcx _ _ _ _ _ e_z (by
    have h9 := Nat.le_of_ble_eq_true o9
    show 1 + (a.1.map q_cat).sum ≤ _
    omega) (q_oks_iff.mpr fun x hx => by
    rcases List.mem_cons.mp hx with rfl | hx
    · exact hq
    · exact hst2 x (by simp [hx]))
  have hro : ((q.2.map (q_tv ad)).map fun v => v.category).sum ≤ 8 := by
    rw [q_cats]
    exact Nat.le_of_ble_eq_true hb.2.1
  intro T hT X
  obtain ⟨mk, methM, hnamed, hmethM, hstM, habM⟩ := Cond.instanceMethod_spec (cx.2.2.2.2.1 _ (q_wd_in o3))
  obtain ⟨methM', cM, hmethM', -, -, -, -, -, -, hsigM⟩ := Cond.code_spec hnamed (cx.2.2.2.2.1 _ (q_wd_in o6))
  cases hmethM.symm.trans hmethM'
  obtain ⟨c2, r2, m2, s1, s2, s3, s4, kP, hkP, hkPi⟩ := Cond.selects_spec (cx.2.2.2.2.1 _ (q_wd_in o4))
  obtain ⟨cellB, b1, b2, b3⟩ := va_recv cx.2.2.2.2.2.1 hP (q_cl_at hc.1) ht
  cases b3.symm.trans s1
  cases (State.methodFound?_of_named hnamed ⟨hny.2.1, hny.2.2.1⟩).symm.trans s2
  cases hnamed.symm.trans s3
  have hsel : selectMethod e.platform s.vm cellB.cls mk = .method mk := by rw [Launch.admits_selectMethod X.admits]; exact s4
  have hlen : (a.1.map (q_tv ad)).length = methM.sig.parameters.length := by
    have h2 := hny.2.2.2
    rw [hsigM] at h2
    rw [List.length_map, e2]
    exact (Option.some.inj h2).symm
  obtain ⟨vm₁, X₁, hstep⟩ := X.invokevirtual cx.1 cx.2.2.2.1 (cx.2.2.2.2.1 _ (q_wd_in o2)) hnamed hmethM hstM hkP hkPi ⟨hny.2.1, hny.2.2.1⟩ (a := ad q.1.1 q.1.2) (cell := cellB) (by rw [hT]; exact b1) (fun z h => by rw [h] at b2; cases b2) hsel hmethM habM hkP hkPi (g := F0 m pc ls (st.map (q_tv ad))) rfl (argsL := a.1.map (q_tv ad)) (rest := q.2.map (q_tv ad)) hlen
    (by show st.map (q_tv ad) = _; rw [e1, List.map_append, List.map_reverse]; rfl) (by rw [cx.2.1]; exact q_dd o1)
  have wi : Cond.initialized (mt ob).1.cls ∈ gt := by rw [hny.1]; exact q_wd_in o5
  exact q_endX (g1 := { F0 m pc ls (st.map (q_tv ad)) with stack := q.2.map (q_tv ad) }) (ig := .invokevirtual oa) cx hTh hnh hc1 hs6 hrx hT hP hS X₁ rfl (by rw [cx.2.2.1]; exact hl.1) rfl rfl (by rw [cx.2.1]; exact q_dd o1) (lv_room (m := m) (pc := pc) (ls := ls) (rest := q.2.map (q_tv ad)) hro) hM (X₁.named hnamed) (Nat.le_of_ble_eq_true o8) (q_wd_in o6) wi hstep
theorem z_68x (cx : q_Cx mt p s m meth c args k D cy n ad A R cells slots) (hTh : q_Th A s) (htr : ∀ e, l.admits e → e.platform.stackTraces = false) (hnh : ∀ pc, ∀ x ∈ c.exceptionTable.toList, covers x pc = false) (hc1 : cells + 1 ≤ R.cells) (hs6 : slots + 6 ≤ R.slots)  (hg : ∀ pc L st σ, g pc L st σ = some (.inr ex, σx) → q_W mt p l e R s m args below meth c (q_MX below (q_QX D cy ad n A ex σx) s (cells + 1) (slots + 6) A) D cy ad n A k cells slots pc L st σ){rm : Room} (hrm : rm.cells = 0 ∧ rm.slots = 0 ∧ rm.frames + 1 ≤ R.frames ∧ 49 + rm.locals ≤ R.locals) (hcl : ∀ k1 vs τ v τ1, cal k1 vs τ = some (.inl v, τ1) → (vs.map q_cat).sum ≤ (mt k1).2.2.1 → q_oks n vs → q_CT l mt rm D cy ad n A k1 vs τ v τ1) {rmx : Room} (hrx : rmx.cells = 1 ∧ rmx.slots = 6 ∧ rmx.frames + 1 ≤ R.frames ∧ 49 + rmx.locals ≤ R.locals) (hcx : ∀ k1 vs τ ex τ1, cal k1 vs τ = some (.inr ex, τ1) → (vs.map q_cat).sum ≤ (mt k1).2.2.1 → q_oks n vs → q_CX l mt rmx D cy ad n A k1 vs τ ex τ1) (ho : q_okB mt k pc (68, ox, oa, ob, ol) = true) (h : q_stp n g cal pc (68, ox, oa, ob, ol) L st σ = some (.inr ex, σx)) : q_W mt p l e R s m args below meth c (q_MX below (q_QX D cy ad n A ex σx) s (cells + 1) (slots + 6) A) D cy ad n A k cells slots pc L st σ := by
  replace ho : (q_dc (mt k).2.1 pc (.invokestatic oa) 3 && q_wd (ol.getD 3 0) (.methodLink (mt k).1.cls oa (mt ob).1) && q_wd (ol.getD 4 0) (.static (mt ob).1) && q_wd (ol.getD 6 0) (.initialized (mt ob).1.cls) && q_wd (ol.getD 7 0) (.code (mt ob).1 (mt ob).2.1 (mt ob).2.2.1 (mt ob).2.2.2) && q_ny (mt ob).1 (mt ob).1.cls (ol.getD 0 0) && Nat.ble (mt ob).2.2.1 30 && Nat.ble (ol.getD 2 0) (mt ob).2.2.1) = true := ho
  simp only [Bool.and_eq_true] at ho
  obtain ⟨⟨⟨⟨⟨⟨⟨o1, o2⟩, o3⟩, o5⟩, o6⟩, o7⟩, o8⟩, o9⟩ := ho
  replace h : ((q_pop (ol.getD 0 0) st).bind fun a => bif q_rm a.2 && Nat.beq ((a.1.map q_cat).sum) (ol.getD 2 0) then (cal ob a.1 σ).bind (q_af n (fun st' σ' => g (pc + 3) L st' σ') a.2) else none) = some (.inr ex, σx) := h
  obtain ⟨a, e_a, h⟩ := Option.bind_eq_some_iff.mp h
  obtain ⟨hb, h⟩ := q_bf h
  obtain ⟨z, e_z, h⟩ := Option.bind_eq_some_iff.mp h
  simp only [Bool.and_eq_true] at hb
  rcases q_af_or h with ⟨v, σ1, rfl, hv, h⟩ | ⟨ex', σ1, rfl, hr⟩
  · exact c_68 cx hg hrm hcl o1 o2 o3 o5 o6 o7 o8 o9 e_a hb e_z hv h
  cases hr
  obtain ⟨e1, e2⟩ := q_pop_s _ e_a
  have hwd := Nat.eq_of_beq_eq_true hb.2
  have hny := of_decide_eq_true o7
  intro H locs ls hP hS hl hL hst
  have hst2 := q_oks_iff.mp hst
  rw [e1] at hst2
  have hM := hcx _ _ _ _ _ e_z (by
    have h9 := Nat.le_of_ble_eq_true o9
    omega) (q_oks_iff.mpr fun x hx => hst2 x (by simp [hx]))
  have hro : ((a.2.map (q_tv ad)).map fun v => v.category).sum ≤ 8 := by
    rw [q_cats]
    exact Nat.le_of_ble_eq_true hb.1
  intro T hT X
  have hcode := cx.2.2.2.2.1 _ (q_wd_in o6)
  obtain ⟨mk, hnamed⟩ := Cond.code_named hcode
  obtain ⟨methM, cM, hmethM, -, -, -, -, -, -, hsigM⟩ := Cond.code_spec hnamed hcode
  have hstatic : methM.isStatic = true := Cond.static_spec hnamed hmethM (cx.2.2.2.2.1 _ (q_wd_in o3))
  obtain ⟨kP, hkP, -⟩ := className_of_methodNamed hnamed
  have hinitP : kP.init = .initialized := Cond.initialized_spec (findClass_of_methodNamed hnamed) hkP (cx.2.2.2.2.1 _ (q_wd_in o5))
  have hlen : (a.1.map (q_tv ad)).length = methM.sig.parameters.length := by
    have h2 := hny.2.2.2
    rw [hsigM] at h2
    rw [List.length_map, e2]
    exact (Option.some.inj h2).symm
  obtain ⟨vm₁, X₁, hstep⟩ := X.invokestatic cx.1 cx.2.2.2.1 (cx.2.2.2.2.1 _ (q_wd_in o2)) hnamed hmethM hstatic hkP hinitP ⟨hny.2.1, hny.2.2.1⟩ (g := F0 m pc ls (st.map (q_tv ad))) rfl (argsL := a.1.map (q_tv ad)) (rest := a.2.map (q_tv ad)) hlen
    (by show st.map (q_tv ad) = _; rw [e1, List.map_append, List.map_reverse]) (by rw [cx.2.1]; exact q_dd o1)
  exact q_endX (g1 := { F0 m pc ls (st.map (q_tv ad)) with stack := a.2.map (q_tv ad) }) (ig := .invokestatic oa) cx hTh hnh hc1 hs6 hrx hT hP hS X₁ rfl (by rw [cx.2.2.1]; exact hl.1) rfl rfl (by rw [cx.2.1]; exact q_dd o1) (lv_room (m := m) (pc := pc) (ls := ls) (rest := a.2.map (q_tv ad)) hro) hM (X₁.named hnamed) (Nat.le_of_ble_eq_true o8) (q_wd_in o6) (q_wd_in o5) hstep
theorem z_77x (cx : q_Cx mt p s m meth c args k D cy n ad A R cells slots) (hTh : q_Th A s) (htr : ∀ e, l.admits e → e.platform.stackTraces = false) (hnh : ∀ pc, ∀ x ∈ c.exceptionTable.toList, covers x pc = false) (hc1 : cells + 1 ≤ R.cells) (hs6 : slots + 6 ≤ R.slots)  (hg : ∀ pc L st σ, g pc L st σ = some (.inr ex, σx) → q_W mt p l e R s m args below meth c (q_MX below (q_QX D cy ad n A ex σx) s (cells + 1) (slots + 6) A) D cy ad n A k cells slots pc L st σ)(hfr : 6 ≤ R.frames) (hlo : 90 ≤ R.locals) (ho : q_okB mt k pc (77, ox, oa, ob, ol) = true) (h : q_stp n g cal pc (77, ox, oa, ob, ol) L st σ = some (.inr ex, σx)) : q_W mt p l e R s m args below meth c (q_MX below (q_QX D cy ad n A ex σx) s (cells + 1) (slots + 6) A) D cy ad n A k cells slots pc L st σ := by
  replace ho : (decide ((mt k).1.cls = "JobBoard") && q_dc (mt k).2.1 pc (.new (q_xc oa)) 3 && q_dc (mt k).2.1 (pc + 3) .dup 1 && q_dc (mt k).2.1 (pc + 4) (.invokespecial (q_xi oa)) 3 && q_dc (mt k).2.1 (pc + 7) .athrow 1 && Nat.ble 1 oa && Nat.ble oa 4) = true := ho
  simp only [Bool.and_eq_true] at ho
  obtain ⟨⟨⟨⟨⟨⟨o1, o2⟩, o3⟩, o4⟩, o5⟩, o6⟩, o7⟩ := ho
  cases st with
  | cons _ _ =>
    replace h : none = some (Sum.inr ex, σx) := h
    cases h
  | nil =>
    replace h : some (Sum.inr oa, σ) = some (Sum.inr ex, σx) := h
    cases h
    intro H locs ls hP hS hl hL hst
    have h1 := Nat.le_of_ble_eq_true o6
    have h4 := Nat.le_of_ble_eq_true o7
    have h3 := q_x3_in oa h1 h4
    exact q_thr cx hTh htr h1 h4 (of_decide_eq_true o1) (h3 _ (by simp [q_x3])) (h3 _ (by simp [q_x3])) (h3 _ (by simp [q_x3])) (q_dd o2) (q_dd o3) (q_dd o4) (q_dd o5) (hnh _) hc1 hs6 hfr hlo hP hS hl.1
theorem q_allX {ci : Nat} (cx : q_Cx mt p s m meth c args k D cy n ad A R cells slots) (hTh : q_Th A s) (htr : ∀ e, l.admits e → e.platform.stackTraces = false) (hnh : ∀ pc, ∀ x ∈ c.exceptionTable.toList, covers x pc = false) (hc1 : cells + 1 ≤ R.cells) (hs6 : slots + 6 ≤ R.slots) (hg : ∀ pc L st σ, g pc L st σ = some (.inr ex, σx) → q_W mt p l e R s m args below meth c (q_MX below (q_QX D cy ad n A ex σx) s (cells + 1) (slots + 6) A) D cy ad n A k cells slots pc L st σ) {rm : Room} (hrm : rm.cells = 0 ∧ rm.slots = 0 ∧ rm.frames + 1 ≤ R.frames ∧ 49 + rm.locals ≤ R.locals) (hcl : ∀ k1 vs τ v τ1, cal k1 vs τ = some (.inl v, τ1) → (vs.map q_cat).sum ≤ (mt k1).2.2.1 → q_oks n vs → q_CT l mt rm D cy ad n A k1 vs τ v τ1) {rmx : Room} (hrx : rmx.cells = 1 ∧ rmx.slots = 6 ∧ rmx.frames + 1 ≤ R.frames ∧ 49 + rmx.locals ≤ R.locals) (hcx : ∀ k1 vs τ ex τ1, cal k1 vs τ = some (.inr ex, τ1) → (vs.map q_cat).sum ≤ (mt k1).2.2.1 → q_oks n vs → q_CX l mt rmx D cy ad n A k1 vs τ ex τ1) (hfr : 6 ≤ R.frames) (hlo : 90 ≤ R.locals) (ho : q_okB mt k pc (ci, ox, oa, ob, ol) = true) (h : q_stp n g cal pc (ci, ox, oa, ob, ol) L st σ = some (.inr ex, σx)) : q_W mt p l e R s m args below meth c (q_MX below (q_QX D cy ad n A ex σx) s (cells + 1) (slots + 6) A) D cy ad n A k cells slots pc L st σ := by
  by_cases hbig : 77 < ci ∨ ci = 5
  · rw [q_big hbig] at h
    cases h
  have hlt : ci < 78 := by omega
  match ci, hlt, ho, h with
  | 0, _, ho, h => exact z_0 cx hg ho h
  | 1, _, ho, h => exact z_1 cx hg ho h
  | 2, _, ho, h => exact z_2 cx hg ho h
  | 3, _, ho, h => exact z_3 cx hg ho h
  | 4, _, ho, h => exact z_4 cx hg ho h
  | 6, _, ho, h => exact z_6 cx hg ho h
  | 7, _, ho, h => exact z_7 cx hg ho h
  | 8, _, ho, h => exact z_8 cx hg ho h
  | 9, _, ho, h => exact z_9 cx hg ho h
  | 10, _, ho, h => exact z_10 cx hg ho h
  | 11, _, ho, h => exact z_11 cx hg ho h
  | 12, _, ho, h => exact z_12 cx hg ho h
  | 13, _, ho, h => exact z_13 cx hg ho h
  | 14, _, ho, h => exact z_14 cx hg ho h
  | 15, _, ho, h => exact z_15 cx hg ho h
  | 16, _, ho, h => exact z_16 cx hg ho h
  | 17, _, ho, h => exact z_17 cx hg ho h
  | 18, _, ho, h => exact z_18 cx hg ho h
  | 19, _, ho, h => exact z_19 cx hg ho h
  | 20, _, ho, h => exact z_20 cx hg ho h
  | 21, _, ho, h => exact z_21 cx hg ho h
  | 22, _, ho, h => exact z_22 cx hg ho h
  | 23, _, ho, h => exact z_23 cx hg ho h
  | 24, _, ho, h => exact z_24 cx hg ho h
  | 25, _, ho, h => exact z_25 cx hg ho h
  | 26, _, ho, h => exact z_26 cx hg ho h
  | 27, _, ho, h => exact z_27 cx hg ho h
  | 28, _, ho, h => exact z_28 cx hg ho h
  | 29, _, ho, h => exact z_29 cx hg ho h
  | 30, _, ho, h => exact z_30 cx hg ho h
  | 31, _, ho, h => exact z_31 cx hg ho h
  | 32, _, ho, h => exact z_32 cx hg ho h
  | 33, _, ho, h => exact z_33 cx hg ho h
  | 34, _, ho, h => exact z_34 cx hg ho h
  | 35, _, ho, h => exact z_35 cx hg ho h
  | 36, _, ho, h => exact z_36 cx hg ho h
  | 37, _, ho, h => exact z_37 cx hg ho h
  | 38, _, ho, h => exact z_38 cx hg ho h
  | 39, _, ho, h => exact z_39 cx hg ho h
  | 40, _, ho, h => exact z_40 cx hg ho h
  | 41, _, ho, h => exact z_41 cx hg ho h
  | 42, _, ho, h => exact z_42 cx hg ho h
  | 43, _, ho, h => exact z_43 cx hg ho h
  | 44, _, ho, h => exact z_44 cx hg ho h
  | 45, _, ho, h => exact z_45 cx hg ho h
  | 46, _, ho, h => exact z_46 cx hg ho h
  | 47, _, ho, h => exact z_47 cx hg ho h
  | 48, _, ho, h => exact z_48 cx hg ho h
  | 49, _, ho, h => exact z_49 cx hg ho h
  | 50, _, ho, h => exact z_50 cx hg ho h
  | 51, _, ho, h => exact z_51 cx hg ho h
  | 52, _, ho, h => exact z_52 cx hg ho h
  | 53, _, ho, h => exact z_53 cx hg ho h
  | 54, _, ho, h => exact z_54 cx hg ho h
  | 55, _, ho, h => exact z_55 cx hg ho h
  | 56, _, ho, h => exact z_56 cx hg ho h
  | 57, _, ho, h => exact z_57 cx hg ho h
  | 58, _, ho, h => exact z_58 cx hg ho h
  | 59, _, ho, h => exact z_59 cx hg ho h
  | 60, _, ho, h => exact z_60 cx hg ho h
  | 61, _, ho, h => exact z_61 cx hg ho h
  | 62, _, ho, h => exact z_62 cx hg ho h
  | 63, _, ho, h => exact z_63 cx hg ho h
  | 64, _, ho, h => exact z_64 cx hg ho h
  | 65, _, ho, h => exact z_65 cx hg ho h
  | 66, _, ho, h => exact z_66 cx hg ho h
  | 67, _, ho, h => exact z_67x cx hTh htr hnh hc1 hs6 hg hrm hcl hrx hcx ho h
  | 68, _, ho, h => exact z_68x cx hTh htr hnh hc1 hs6 hg hrm hcl hrx hcx ho h
  | 69, _, ho, h => exact z_69 cx hg ho h
  | 70, _, ho, h => exact z_70 cx hg ho h
  | 71, _, ho, h => exact z_71 cx hg ho h
  | 72, _, ho, h =>
    obtain ⟨⟨x1, x2⟩, e_x, h⟩ := Option.bind_eq_some_iff.mp (show ((q_pI st).bind fun x => match x.2 with
      | [] => (some (Sum.inl (some (.inl x.1)), σ) : Option Res)
      | _ :: _ => none) = some (Sum.inr ex, σx) from h)
    cases x2 with
    | cons _ _ =>
      replace h : none = some (Sum.inr ex, σx) := h
      cases h
    | nil =>
      replace h : ((some (Sum.inl (some (.inl x1)), σ) : Option Res)) = some (Sum.inr ex, σx) := h
      cases h
  | 73, _, ho, h =>
    obtain ⟨⟨x1, x2⟩, e_x, h⟩ := Option.bind_eq_some_iff.mp (show ((q_pI st).bind fun x => match x.2 with
      | [] => (if x.1 &&& 1 = x.1 then some (Sum.inl (some (.inl x.1)), σ) else none : Option Res)
      | _ :: _ => none) = some (Sum.inr ex, σx) from h)
    cases x2 with
    | cons _ _ =>
      replace h : none = some (Sum.inr ex, σx) := h
      cases h
    | nil =>
      replace h : ((if x1 &&& 1 = x1 then some (Sum.inl (some (.inl x1)), σ) else none : Option Res)) = some (Sum.inr ex, σx) := h
      by_cases hz : x1 &&& 1 = x1
      · rw [if_pos hz] at h
        cases h
      · rw [if_neg hz] at h
        cases h
  | 74, _, ho, h =>
    obtain ⟨⟨x1, x2⟩, e_x, h⟩ := Option.bind_eq_some_iff.mp (show ((q_pL st).bind fun x => match x.2 with
      | [] => (some (Sum.inl (some (.inr (.inl x.1))), σ) : Option Res)
      | _ :: _ => none) = some (Sum.inr ex, σx) from h)
    cases x2 with
    | cons _ _ =>
      replace h : none = some (Sum.inr ex, σx) := h
      cases h
    | nil =>
      replace h : ((some (Sum.inl (some (.inr (.inl x1))), σ) : Option Res)) = some (Sum.inr ex, σx) := h
      cases h
  | 75, _, ho, h =>
    obtain ⟨⟨x1, x2⟩, e_x, h⟩ := Option.bind_eq_some_iff.mp (show ((q_pN st).bind fun x => match x.2 with
      | [] => (some (Sum.inl (some (.inr (.inr x.1))), σ) : Option Res)
      | _ :: _ => none) = some (Sum.inr ex, σx) from h)
    cases x2 with
    | cons _ _ =>
      replace h : none = some (Sum.inr ex, σx) := h
      cases h
    | nil =>
      replace h : ((some (Sum.inl (some (.inr (.inr x1))), σ) : Option Res)) = some (Sum.inr ex, σx) := h
      cases h
  | 76, _, ho, h =>
    cases st with
    | cons _ _ =>
      replace h : none = some (Sum.inr ex, σx) := h
      cases h
    | nil =>
      replace h : some (Sum.inl none, σ) = some (Sum.inr ex, σx) := h
      cases h
  | 5, _, ho, h => exact absurd (Or.inr rfl) hbig
  | 77, _, ho, h => exact z_77x cx hTh htr hnh hc1 hs6 hg hfr hlo ho h
  | _ + 78, hl, _, _ => omega
end SNX
def q_rmx (d : Nat) : Room := { frames := d + 6, cells := 1, slots := 6, locals := 49 * d + 100 }
section RUNX
variable {pr : Nat → Nat → Option Op} {mt : Nat → MRow} {n : Nat} {l : Launch} {D : va_G} {cy : Nat → ClassId} {ad : Nat → Nat → Nat} {A : Nat → Prop}
theorem q_frameX (hI : ∀ cn, va_D A (wl (idj n) ad cn)) (hpr : ∀ k pc o, pr k pc = some o → q_okB mt k pc o = true) (hpl : ∀ k, plainName (mt k).1.cls = true) (htr : ∀ e, l.admits e → e.platform.stackTraces = false) (d : Nat)
    (hd : ∀ d', d = d' + 1 → ∀ (f k : Nat) (vs : List PV) (σ : J) (ex : Nat) (σ1 : J), q_run pr n d' f k 0 (q_args 0 vs) [] σ = some (.inr ex, σ1) → (vs.map q_cat).sum ≤ (mt k).2.2.1 → q_oks n vs → q_CX l mt (q_rmx d') D cy ad n A k vs σ ex σ1)
    {p : Program} {e : Env} {R : Room} {s : State} {m : MethodId} {args : Array Value} {below : List Frame} {meth : Method} {c : Code} {k cells slots : Nat} (cx : q_Cx mt p s m meth c args k D cy n ad A R cells slots) (hTh : q_Th A s) (hnh : ∀ pc, ∀ x ∈ c.exceptionTable.toList, covers x pc = false) (hc1 : cells + 1 ≤ R.cells) (hs6 : slots + 6 ≤ R.slots) (hfr : d + 6 ≤ R.frames) (hlo : 49 * d + 100 ≤ R.locals) {ex : Nat} {σ1 : J} :
    ∀ (f pc : Nat) (L : PL) (st : List PV) (σ : J), q_run pr n d f k pc L st σ = some (.inr ex, σ1) → q_W mt p l e R s m args below meth c (q_MX below (q_QX D cy ad n A ex σ1) s (cells + 1) (slots + 6) A) D cy ad n A k cells slots pc L st σ := by
  intro f
  induction f with
  | zero => intro pc L st σ h; cases h
  | succ f ih =>
    intro pc L st σ h
    unfold q_run at h
    cases ho : pr k pc with
    | none => rw [ho] at h; cases h
    | some o =>
      rw [ho] at h
      obtain ⟨ci, ox, oa, ob, ol⟩ := o
      have hok := hpr k pc _ ho
      cases d with
      | zero => exact q_allX (rm := { frames := 0, cells := 0, slots := 0, locals := 0 }) (rmx := { frames := 0, cells := 1, slots := 6, locals := 0 }) cx hTh htr hnh hc1 hs6 ih ⟨rfl, rfl, by show 0 + 1 ≤ _; omega, by show 49 + 0 ≤ _; omega⟩ (fun _ _ _ _ _ hz => by cases hz) ⟨rfl, rfl, by show 0 + 1 ≤ _; omega, by show 49 + 0 ≤ _; omega⟩ (fun _ _ _ _ _ hz => by cases hz) (by omega) (by omega) hok h
      | succ d' => exact q_allX (rm := q_rmd d') (rmx := q_rmx d') cx hTh htr hnh hc1 hs6 ih ⟨rfl, rfl, by show d' + 1 + 1 ≤ _; omega, by show 49 + (49 * d' + 60) ≤ _; omega⟩ (fun k1 vs τ v τ1 hz => q_met hI hpr hpl d' f k1 vs τ v τ1 hz) ⟨rfl, rfl, by show d' + 6 + 1 ≤ _; omega, by show 49 + (49 * d' + 100) ≤ _; omega⟩ (fun k1 vs τ ex τ1 hz => hd d' rfl f k1 vs τ ex τ1 hz) (by omega) (by omega) hok h
theorem q_metX1 (hI : ∀ cn, va_D A (wl (idj n) ad cn)) (hpr : ∀ k pc o, pr k pc = some o → q_okB mt k pc o = true) (hpl : ∀ k, plainName (mt k).1.cls = true) (htr : ∀ e, l.admits e → e.platform.stackTraces = false) (d : Nat)
    (hd : ∀ d', d = d' + 1 → ∀ (f k : Nat) (vs : List PV) (σ : J) (ex : Nat) (σ1 : J), q_run pr n d' f k 0 (q_args 0 vs) [] σ = some (.inr ex, σ1) → (vs.map q_cat).sum ≤ (mt k).2.2.1 → q_oks n vs → q_CX l mt (q_rmx d') D cy ad n A k vs σ ex σ1)
    (f k : Nat) (vs : List PV) (σ : J) (ex : Nat) (σ1 : J) (h : q_run pr n d f k 0 (q_args 0 vs) [] σ = some (.inr ex, σ1)) (hw : (vs.map q_cat).sum ≤ (mt k).2.2.1) (hk : q_oks n vs) : q_CX l mt (q_rmx d) D cy ad n A k vs σ ex σ1 := by
  refine q_Mx.ofW (cc := (mt k).2.1) (maxL := (mt k).2.2.1) (ret := (mt k).2.2.2) (hpl k) rfl ?_
  intro p e s m args below meth c s₁ B hml hv
  obtain ⟨rfl, hP, hK, hTh⟩ := hv
  rw [lg_entry_eq]
  have hpre := atoms_spec (ws := Cond.code (mt k).1 (mt k).2.1 (mt k).2.2.1 (mt k).2.2.2 :: gt) B.pre
  have cx : q_Cx mt p s m meth c (vs.map (q_tv ad)).toArray k D cy n ad A (q_rmx d) 0 0 := ⟨B.exec, B.bytes, hml, findClass_of_methodNamed B.named, fun w h => hpre w (List.mem_cons_of_mem _ h), hK, B.returns, B.notSynchronized, hI, by show 1 ≤ d + 6; omega, by show 40 ≤ 49 * d + 100; omega, Nat.zero_le _, Nat.zero_le _⟩
  have he := lv_entry (vs.map (q_tv ad)) (n := (mt k).2.2.1) (by rw [q_sl_len, q_cats]; exact hw)
  have hnh : ∀ pc, ∀ x ∈ c.exceptionTable.toList, covers x pc = false := by
    intro pc x hx
    have h0 := B.noHandlers (hpre _ List.mem_cons_self)
    rw [Array.isEmpty_iff.mp h0] at hx
    cases hx
  exact q_frameX hI hpr hpl htr d hd cx hTh hnh (Nat.le_refl _) (Nat.le_refl _) (Nat.le_refl _) (Nat.le_refl _) f 0 (q_args 0 vs) [] σ h s.heap [] _ hP va_S.rf (q_args_has he) (fun b w hb => q_oks_iff.mp hk _ (q_args_in (ad := ad) hb).1) trivial
/-- every run of the interpreter that ends in an exception is a contract of the machine that throws it -/
theorem q_metX (hI : ∀ cn, va_D A (wl (idj n) ad cn)) (hpr : ∀ k pc o, pr k pc = some o → q_okB mt k pc o = true) (hpl : ∀ k, plainName (mt k).1.cls = true) (htr : ∀ e, l.admits e → e.platform.stackTraces = false) :
    ∀ (d f k : Nat) (vs : List PV) (σ : J) (ex : Nat) (σ1 : J), q_run pr n d f k 0 (q_args 0 vs) [] σ = some (.inr ex, σ1) → (vs.map q_cat).sum ≤ (mt k).2.2.1 → q_oks n vs → q_CX l mt (q_rmx d) D cy ad n A k vs σ ex σ1 := by
  intro d
  induction d with
  | zero => exact q_metX1 hI hpr hpl htr 0 (fun d' h => by omega)
  | succ d ih => exact q_metX1 hI hpr hpl htr (d + 1) (fun d' h => by
      obtain rfl : d = d' := by omega
      exact ih)
end RUNX
end
section
/-! A handler whose class may not be resolved yet: the search resolves it; the frame goes on there. Ours. -/
section FND
variable {E : CtlPost} {e : Env} {d : Bool} {acts : List Action} {s : State} {f : JFrame} {a : Addr} {Q : Handler → Pre}
theorem q_go_cold {x : ExceptionTableEntry} {t : List ExceptionTableEntry} {c : ClassId} {cell : Cell} {vm' : Vm} (hx : covers x f.pc = true) (h0 : x.catchType ≠ 0)
    (hg : (Jvm.resolveClass f.method.cls x.catchType).Gives e.toSetting s.vm (.ok c) vm') (hsz : vm'.classes.size ≤ s.vm.classes.size) (hcell : s.heap[a]? = some cell) (hobj : ∀ k, cell.vm ≠ .statics k)
    (hk : ∃ k, vm'.classes[cell.cls]? = some k) (hc : ∃ k, vm'.classes[c]? = some k) :
    wp (findHandler.go f a (x :: t)) Q E e d acts s ↔
      if vm'.assignable cell.cls c = true then Q (.found x.handlerPc) d acts (s.setVm vm') else wp (findHandler.go f a t) Q E e d acts (s.setVm vm') := by
  simp only [covers] at hx
  obtain ⟨ha, ht⟩ := hg.op (op := VmOp.resolveClass f.method.cls x.catchType) rfl
  cases hfit : vm'.assignable cell.cls c <;>
    simp [findHandler.go, hx, h0, ha, ht, hsz, hcell, hobj, hk, hc, hfit, VmOp.dirties, VmOp.acts]
/-- the search ends with h, the tables then are vm' -/
def q_Fi (e : Env) (s : State) (f : JFrame) (a : Addr) (h : Handler) (vm' : Vm) : Prop := ∀ (Q : Handler → Pre) (E : CtlPost) (d : Bool) (acts : List Action), wp (findHandler f a) Q E e d acts s ↔ Q h d acts (s.setVm vm')
theorem q_step_catch {r : List Frame} {pc : Nat} {vm' : Vm} (hfind : q_Fi e s f a (.found pc) vm') : (stepThrowing e s a (.java f :: r)).Is ((s.setVm vm').setFrames (.java { f with pc := pc, stack := [.ref a] } :: r)) [] := by
  simp only [stepThrowing, searchFrame, vmDo]
  generalize hr : Sem.go _ e false [] s = res
  obtain ⟨as, rfl, ha⟩ := Sem.eq_ok_of hr (a := Handler.found pc) (s' := s.setVm vm') (acts' := []) (by simp [hfind _ _ _ _])
  exact ⟨rfl, ha⟩
theorem q_caught {p : Program} {l : Launch} {R : Room} {s : State} {m : MethodId} {args : Array Value} {below : List Frame} {meth : Method} {c : Code} {T : State} {locs : List Loc} {cells slots : Nat} (X : Stand p l e R s m args below meth c T locs cells slots) (a : Addr) {g : JFrame} (hg : g.method = m) {pc : Nat} {vm' : Vm}
    (hfind : q_Fi e ((T.setTop g).pushFrame (.throwing a)) g a (.found pc) vm') {target : State} (hrest : Steps p.tables e below ((T.setVm vm').setTop { g with pc := pc, stack := [.ref a] }) target) :
    Steps p.tables e below ((T.setTop g).pushFrame (.throwing a)) target := by
  have h : At T g.method c below := by rw [hg]; exact X.here
  obtain ⟨hgo, hw⟩ := h.throwing a
  refine Steps.head hgo hw ?_
  rw [stepThread_throwing (frames_entered h.top _), (q_step_catch (s := (T.setTop g).pushFrame (.throwing a)) hfind).1]
  obtain ⟨g₀, hg0⟩ := Option.isSome_iff_exists.mp h.top
  obtain ⟨r, hr⟩ := State.topJava?_eq_some.mp hg0
  have hr' : (T.setVm vm').frames = .java g₀ :: r := hr
  have e1 : ((T.setTop g).pushFrame (.throwing a)).setVm vm' = ((T.setVm vm').setTop g).pushFrame (.throwing a) := rfl
  rw [e1, State.pushFrame, State.setFrames_setFrames, State.setTop_of_frames _ hr', State.setFrames_setFrames]
  rw [State.setTop_of_frames _ hr'] at hrest
  rw [hr]
  exact hrest
end FND
/-- the law's catch types, as numbers of exceptions -/
def q_hx (ct : Nat) : Nat := match ct with
  | 13 => 1
  | 15 => 2
  | 17 => 3
  | 19 => 4
  | _ => 0
def q_pick (pc ex : Nat) : List (Nat × Nat × Nat × Nat) → Option Nat
  | [] => none
  | h :: r => bif Nat.ble h.1 pc && (Nat.blt pc h.2.1 && (Nat.blt 0 (q_hx h.2.2.2) && Nat.ble (q_hx h.2.2.2) 4)) then (bif Nat.beq (q_hx h.2.2.2) ex then some h.2.2.1 else q_pick pc ex r) else none
/-- which exceptions are which -/
def q_Tn (U : State) : Prop := ∀ i j, 1 ≤ i → i ≤ 4 → 1 ≤ j → j ≤ 4 → ∃ c t : ClassId, U.vm.findClass (q_xn i) = some c ∧ U.vm.findClass (q_xn j) = some t ∧ U.vm.assignable c t = decide (i = j)
theorem q_Tn.moved {u U : State} (hvm : u.vm.Alike U.vm) (h : q_Tn u) : q_Tn U := fun i j h1 h2 h3 h4 => by
  obtain ⟨c, t, g1, g2, g3⟩ := h i j h1 h2 h3 h4
  exact ⟨c, t, by rw [hvm.findClass]; exact g1, by rw [hvm.findClass]; exact g2, by rw [hvm.assignable]; exact g3⟩
theorem q_cl13 : ∀ ct, 0 < q_hx ct → Cond.classLink "JobBoardLaw" ct (q_xn (q_hx ct)) ∈ gt := by
  intro ct h
  have hall : ([13, 15, 17, 19].all fun ct => decide (Cond.classLink "JobBoardLaw" ct (q_xn (q_hx ct)) ∈ lw_tbl) && goodWord (Cond.classLink "JobBoardLaw" ct (q_xn (q_hx ct)))) = true := by decide +kernel
  have hm : ct ∈ [13, 15, 17, 19] := by
    unfold q_hx at h
    split at h <;> simp_all
  have h2 := List.all_eq_true.mp hall ct hm
  rw [Bool.and_eq_true] at h2
  exact gt_of (of_decide_eq_true h2.1) h2.2
section FNE
variable {p : Program} {l : Launch} {e : Env} {R : Room} {s : State} {m : MethodId} {args : Array Value} {below : List Frame} {meth : Method} {c : Code} {T : State} {locs : List Loc} {cells slots : Nat}
theorem q_find_go (hpl : e.platform.magicAccessors = ({} : Platform).magicAccessors) (hown : s.vm.findClass "JobBoardLaw" = some m.cls) (hts : ∀ w ∈ gt, w.before args s = true) (hTn : q_Tn s) {S : State} {g : JFrame} (hg : g.method = m) {a : Addr} {cell : Cell} (hcell : S.heap[a]? = some cell) (hobj : ∀ k, cell.vm ≠ .statics k) {ex hpc : Nat} (hx1 : 1 ≤ ex) (hx4 : ex ≤ 4) (hcc : s.vm.findClass (q_xn ex) = some cell.cls) :
    ∀ (ents : List ExceptionTableEntry) (vm₀ : Vm), s.WarmedH vm₀ → q_pick g.pc ex (ents.map (fun h => (h.startPc, h.endPc, h.handlerPc, h.catchType))) = some hpc →
      ∃ vm', s.WarmedH vm' ∧ ∀ (Q : Handler → Pre) (E : CtlPost) (d : Bool) (acts : List Action), wp (findHandler.go g a ents) Q E e d acts (S.setVm vm₀) ↔ Q (.found hpc) d acts (S.setVm vm') := by
  intro ents
  induction ents with
  | nil => intro vm₀ _ h; cases h
  | cons x t ih =>
    intro vm₀ hW h
    replace h : (bif Nat.ble x.startPc g.pc && (Nat.blt g.pc x.endPc && (Nat.blt 0 (q_hx x.catchType) && Nat.ble (q_hx x.catchType) 4)) then (bif Nat.beq (q_hx x.catchType) ex then some x.handlerPc else q_pick g.pc ex (t.map (fun h => (h.startPc, h.endPc, h.handlerPc, h.catchType)))) else none) = some hpc := h
    obtain ⟨hb, h⟩ := q_bf h
    simp only [Bool.and_eq_true] at hb
    have b1 := Nat.le_of_ble_eq_true hb.1
    have b2 := Nat.blt_eq.mp hb.2.1
    have b3 := Nat.blt_eq.mp hb.2.2.1
    have b4 := Nat.le_of_ble_eq_true hb.2.2.2
    have hx : covers x g.pc = true := by simp [covers, b1, b2]
    have h0 : x.catchType ≠ 0 := fun q => by
      rw [q] at b3
      exact absurd b3 (by decide)
    obtain ⟨cc, hfc, hcl⟩ := Cond.classLink_spec hown (hts _ (q_cl13 _ b3)) e.platform hpl
    obtain ⟨hg1, hW1, -⟩ := State.classEntry (e := e) hW hcl
    obtain ⟨cA, cB, f1, f2, f3⟩ := hTn ex (q_hx x.catchType) hx1 hx4 b3 b4
    cases f1.symm.trans hcc
    cases f2.symm.trans hfc
    have hk : ∃ k, (vm₀.noted m.cls x.catchType (.cls cc)).classes[cell.cls]? = some k := Vm.classAt_of_findClass (name := q_xn ex) (by rw [hW1.alike.findClass]; exact hcc)
    have hc : ∃ k, (vm₀.noted m.cls x.catchType (.cls cc)).classes[cc]? = some k := Vm.classAt_of_findClass (name := q_xn (q_hx x.catchType)) (by rw [hW1.alike.findClass]; exact hfc)
    have has : (vm₀.noted m.cls x.catchType (.cls cc)).assignable cell.cls cc = decide (ex = q_hx x.catchType) := by rw [hW1.alike.assignable]; exact f3
    subst hg
    have hstep : ∀ (Q : Handler → Pre) (E : CtlPost) (d : Bool) (acts : List Action), wp (findHandler.go g a (x :: t)) Q E e d acts (S.setVm vm₀) ↔ if (vm₀.noted g.method.cls x.catchType (.cls cc)).assignable cell.cls cc = true then Q (.found x.handlerPc) d acts ((S.setVm vm₀).setVm (vm₀.noted g.method.cls x.catchType (.cls cc))) else wp (findHandler.go g a t) Q E e d acts ((S.setVm vm₀).setVm (vm₀.noted g.method.cls x.catchType (.cls cc))) :=
      fun Q E d acts => q_go_cold hx h0 hg1 (by show (vm₀.noted _ _ _).classes.size ≤ vm₀.classes.size; rw [Vm.size_noted]; exact Nat.le_refl _) hcell hobj hk hc
    cases he : Nat.beq (q_hx x.catchType) ex with
    | true =>
      rw [he] at h
      have h : some x.handlerPc = some hpc := h
      cases h
      refine ⟨_, hW1, fun Q E d acts => (hstep Q E d acts).trans ?_⟩
      rw [has, if_pos (by simp [(Nat.eq_of_beq_eq_true he)])]
      exact Iff.rfl
    | false =>
      rw [he] at h
      have hne := q_beq_ne he
      obtain ⟨vm', hW', hgo⟩ := ih _ hW1 h
      refine ⟨vm', hW', fun Q E d acts => (hstep Q E d acts).trans ?_⟩
      rw [has, if_neg (by simp [Ne.symm hne])]
      exact hgo Q E d acts
/-- caught: the frame goes on at the handler -/
theorem q_catch (X : Stand p l e R s m args below meth c T locs cells slots) (hown : s.vm.findClass "JobBoardLaw" = some m.cls) (hts : ∀ w ∈ gt, w.before args s = true) (hTn : q_Tn s) {g : JFrame} (hg : g.method = m) {x : Addr} {ce : Cell} (hce : T.heap[x]? = some ce) (hcv : ce.vm = .none) {ex hpc : Nat} (hx1 : 1 ≤ ex) (hx4 : ex ≤ 4) (hcc : T.vm.findClass (q_xn ex) = some ce.cls)
    (hpk : q_pick g.pc ex (c.exceptionTable.toList.map (fun h => (h.startPc, h.endPc, h.handlerPc, h.catchType))) = some hpc) {Q : State → Prop}
    (kk : W p l e R s m args below meth c T.heap locs cells slots Q { g with pc := hpc, stack := [.ref x] }) : ∃ t, Steps p.tables e below ((T.setTop g).pushFrame (.throwing x)) t ∧ Q t := by
  have hpl : e.platform.magicAccessors = ({} : Platform).magicAccessors := by rw [X.admits.platform]
  have hcs : s.vm.findClass (q_xn ex) = some ce.cls := by rw [← X.warmed.alike.findClass]; exact hcc
  obtain ⟨vm', hW', hgo⟩ := q_find_go (a := x) hpl hown hts hTn (S := (T.setTop g).pushFrame (.throwing x)) hg (by rw [Stand.throwing_heap]; exact hce) (fun k h => by rw [hcv] at h; cases h) hx1 hx4 hcs c.exceptionTable.toList T.vm X.warmed hpk
  have hm : ((T.setTop g).pushFrame (.throwing x)).vm.method? g.method = some meth := by rw [Stand.throwing_vm, hg]; exact X.method'
  have hfind : q_Fi e ((T.setTop g).pushFrame (.throwing x)) g x (.found hpc) vm' := by
    intro Q E d acts
    rw [W.findHandler_eq hm X.code]
    have e1 : ((T.setTop g).pushFrame (.throwing x)).setVm T.vm = (T.setTop g).pushFrame (.throwing x) := rfl
    have h2 := hgo Q E d acts
    rw [e1] at h2
    exact h2
  obtain ⟨t, a1, b1⟩ := kk (T.setVm vm') rfl (X.noted hW')
  exact ⟨t, q_caught X x hg hfind a1, b1⟩
end FNE
end
section
/-! The law's helpers: an exception in a method with handlers. Ours, written by runh.py -/
section SNH2
variable {mt : Nat → MRow} {p : Program} {l : Launch} {e : Env} {R : Room} {s : State} {m : MethodId} {args : Array Value} {below : List Frame} {meth : Method} {c : Code} {Q : State → Prop} {D : va_G} {cy : Nat → ClassId} {ad : Nat → Nat → Nat} {n k cells slots pc : Nat} {A : Nat → Prop} {g : Nat → PL → List PV → J → Option Res} {cal : Nat → List PV → J → Option Res} {r : Res} {L : PL} {st : List PV} {σ : J} {ox : Int} {oa ob : Nat} {ol : List Nat} {ex : Nat} {σx : J}
theorem z_67h (cx : q_Cx mt p s m meth c args k D cy n ad A R cells slots) (hTh : q_Th A s) (hTn : q_Tn s) (hlaw : (mt k).1.cls = "JobBoardLaw") (hx1 : 1 ≤ ex) (hx4 : ex ≤ 4) (hc1 : cells + 1 ≤ R.cells) (hs6 : slots + 6 ≤ R.slots) (hcat : ∃ hpc, q_pick pc ex (c.exceptionTable.toList.map (fun h => (h.startPc, h.endPc, h.handlerPc, h.catchType))) = some hpc ∧ ∀ (H : Heap) (locs : List Loc) (ls : Array Slot) (x : Addr), WJ D cy ad n σx H → va_S A s.heap H locs → lv_has ls (mt k).2.2.1 [] → W p l e R s m args below meth c H locs (cells + 1) (slots + 6) Q (F0 m hpc ls [.ref x])) (hg : ∀ pc L st σ, g pc L st σ = some (.inr ex, σx) → q_W mt p l e R s m args below meth c Q D cy ad n A k cells slots pc L st σ) {rm : Room} (hrm : rm.cells = 0 ∧ rm.slots = 0 ∧ rm.frames + 1 ≤ R.frames ∧ 49 + rm.locals ≤ R.locals) (hcl : ∀ k1 vs τ v τ1, cal k1 vs τ = some (.inl v, τ1) → (vs.map q_cat).sum ≤ (mt k1).2.2.1 → q_oks n vs → q_CT l mt rm D cy ad n A k1 vs τ v τ1) {rmx : Room} (hrx : rmx.cells = 1 ∧ rmx.slots = 6 ∧ rmx.frames + 1 ≤ R.frames ∧ 49 + rmx.locals ≤ R.locals) (hcx : ∀ k1 vs τ ex τ1, cal k1 vs τ = some (.inr ex, τ1) → (vs.map q_cat).sum ≤ (mt k1).2.2.1 → q_oks n vs → q_CX l mt rmx D cy ad n A k1 vs τ ex τ1) (ho : q_okB mt k pc (67, ox, oa, ob, ol) = true) (h : q_stp n g cal pc (67, ox, oa, ob, ol) L st σ = some (.inr ex, σx)) : q_W mt p l e R s m args below meth c Q D cy ad n A k cells slots pc L st σ := by
  replace ho : (q_dc (mt k).2.1 pc (.invokevirtual oa) 3 && q_wd (ol.getD 3 0) (.methodLink (mt k).1.cls oa (mt ob).1) && q_wd (ol.getD 4 0) (.instanceMethod (mt ob).1) && q_wd (ol.getD 5 0) (.selects (q_cl (ol.getD 1 0)).1 (mt ob).1 (mt ob).1) && q_wd (ol.getD 6 0) (.initialized (q_cl (ol.getD 1 0)).1) && q_wd (ol.getD 7 0) (.code (mt ob).1 (mt ob).2.1 (mt ob).2.2.1 (mt ob).2.2.2) && q_ny (mt ob).1 (q_cl (ol.getD 1 0)).1 (ol.getD 0 0) && Nat.ble (mt ob).2.2.1 30 && Nat.ble (ol.getD 2 0 + 1) (mt ob).2.2.1) = true := ho
  simp only [Bool.and_eq_true] at ho
  obtain ⟨⟨⟨⟨⟨⟨⟨⟨o1, o2⟩, o3⟩, o4⟩, o5⟩, o6⟩, o7⟩, o8⟩, o9⟩ := ho
  replace h : ((q_pop (ol.getD 0 0) st).bind fun a => (q_pR a.2).bind fun q => (q_ko q.1.1).bind fun w => bif Nat.beq w.1 (ol.getD 1 0) && (q_rm q.2 && Nat.beq ((a.1.map q_cat).sum) (ol.getD 2 0)) then (cal ob (.inr (.inr (some q.1)) :: a.1) σ).bind (q_af n (fun st' σ' => g (pc + 3) L st' σ') q.2) else none) = some (.inr ex, σx) := h
  obtain ⟨a, e_a, h⟩ := Option.bind_eq_some_iff.mp h
  obtain ⟨q, e_q, h⟩ := Option.bind_eq_some_iff.mp h
  obtain ⟨w, e_w, h⟩ := Option.bind_eq_some_iff.mp h
  obtain ⟨hb, h⟩ := q_bf h
  obtain ⟨z, e_z, h⟩ := Option.bind_eq_some_iff.mp h
  simp only [Bool.and_eq_true] at hb
  rcases q_af_or h with ⟨v, σ1, rfl, hv, h⟩ | ⟨ex', σ1, rfl, hr⟩
  · exact c_67 cx hg hrm hcl o1 o2 o3 o4 o5 o6 o7 o8 o9 e_a e_q e_w hb e_z hv h
  cases hr
  obtain ⟨e1, e2⟩ := q_pop_s _ e_a
  rw [q_pR_s e_q] at e1
  have hci := Nat.eq_of_beq_eq_true hb.1
  have hwd := Nat.eq_of_beq_eq_true hb.2.2
  rw [← hci] at o4 o5 o7
  have hc := q_kB_at e_w
  have hny := of_decide_eq_true o7
  intro H locs ls hP hS hl hL hst
  have hst2 := q_oks_iff.mp hst
  rw [e1] at hst2
  have hq : q_ok n (.inr (.inr (some q.1))) = true := hst2 _ (by simp)
  have hi : (q.1.1, q.1.2) ∈ idj n := q_ok_in hq (q_ko_ne e_w)
  obtain ⟨t, ht0, ht⟩ := wl_at (ad := ad) (cn := cj cy ad n σ) hi
  rw [cj_o e_w] at ht
  have hM := hcx _ _ _ _ _ e_z (by
    have h9 := Nat.le_of_ble_eq_true o9
    show 1 + (a.1.map q_cat).sum ≤ _
    omega) (q_oks_iff.mpr fun x hx => by
    rcases List.mem_cons.mp hx with rfl | hx
    · exact hq
    · exact hst2 x (by simp [hx]))
  have hro : ((q.2.map (q_tv ad)).map fun v => v.category).sum ≤ 8 := by
    rw [q_cats]
    exact Nat.le_of_ble_eq_true hb.2.1
  intro T hT X
  obtain ⟨mk, methM, hnamed, hmethM, hstM, habM⟩ := Cond.instanceMethod_spec (cx.2.2.2.2.1 _ (q_wd_in o3))
  obtain ⟨methM', cM, hmethM', -, -, -, -, -, -, hsigM⟩ := Cond.code_spec hnamed (cx.2.2.2.2.1 _ (q_wd_in o6))
  cases hmethM.symm.trans hmethM'
  obtain ⟨c2, r2, m2, s1, s2, s3, s4, kP, hkP, hkPi⟩ := Cond.selects_spec (cx.2.2.2.2.1 _ (q_wd_in o4))
  obtain ⟨cellB, b1, b2, b3⟩ := va_recv cx.2.2.2.2.2.1 hP (q_cl_at hc.1) ht
  cases b3.symm.trans s1
  cases (State.methodFound?_of_named hnamed ⟨hny.2.1, hny.2.2.1⟩).symm.trans s2
  cases hnamed.symm.trans s3
  have hsel : selectMethod e.platform s.vm cellB.cls mk = .method mk := by rw [Launch.admits_selectMethod X.admits]; exact s4
  have hlen : (a.1.map (q_tv ad)).length = methM.sig.parameters.length := by
    have h2 := hny.2.2.2
    rw [hsigM] at h2
    rw [List.length_map, e2]
    exact (Option.some.inj h2).symm
  obtain ⟨vm₁, X₁, hstep⟩ := X.invokevirtual cx.1 cx.2.2.2.1 (cx.2.2.2.2.1 _ (q_wd_in o2)) hnamed hmethM hstM hkP hkPi ⟨hny.2.1, hny.2.2.1⟩ (a := ad q.1.1 q.1.2) (cell := cellB) (by rw [hT]; exact b1) (fun z h => by rw [h] at b2; cases b2) hsel hmethM habM hkP hkPi (g := F0 m pc ls (st.map (q_tv ad))) rfl (argsL := a.1.map (q_tv ad)) (rest := q.2.map (q_tv ad)) hlen
    (by show st.map (q_tv ad) = _; rw [e1, List.map_append, List.map_reverse]; rfl) (by rw [cx.2.1]; exact q_dd o1)
  have wi : Cond.initialized (mt ob).1.cls ∈ gt := by rw [hny.1]; exact q_wd_in o5
  obtain ⟨x, T', L', X', hw1, hS', -, ⟨ce, hce, hcv, hcc⟩, st'⟩ := q_toX (g1 := { F0 m pc ls (st.map (q_tv ad)) with stack := q.2.map (q_tv ad) }) (ig := .invokevirtual oa) cx hTh hc1 hs6 hrx hT hP hS X₁ rfl (by rw [cx.2.2.1]; exact hl.1) (by rw [cx.2.1]; exact q_dd o1) (lv_room (m := m) (pc := pc) (ls := ls) (rest := q.2.map (q_tv ad)) hro) hM (X₁.named hnamed) (Nat.le_of_ble_eq_true o8) (q_wd_in o6) wi hstep
  obtain ⟨hpc, hpk, hk⟩ := hcat
  obtain ⟨t, a1, b1⟩ := q_catch X' (by rw [← hlaw]; exact cx.2.2.2.1) cx.2.2.2.2.1 hTn (g := { F0 m pc ls (st.map (q_tv ad)) with stack := q.2.map (q_tv ad) }) rfl hce hcv hx1 hx4 hcc hpk (hk T'.heap (locs ++ L') ls x hw1 hS' ⟨hl.1, hl.2.1, fun q hq => by cases hq⟩)
  exact ⟨t, st' _ a1, b1⟩
theorem q_allH {ci : Nat} (cx : q_Cx mt p s m meth c args k D cy n ad A R cells slots) (hTh : q_Th A s) (hTn : q_Tn s) (hlaw : (mt k).1.cls = "JobBoardLaw") (hx1 : 1 ≤ ex) (hx4 : ex ≤ 4) (hc1 : cells + 1 ≤ R.cells) (hs6 : slots + 6 ≤ R.slots) (hn68 : ci ≠ 68 ∧ ci ≠ 77) (hcat : ci = 67 → ∃ hpc, q_pick pc ex (c.exceptionTable.toList.map (fun h => (h.startPc, h.endPc, h.handlerPc, h.catchType))) = some hpc ∧ ∀ (H : Heap) (locs : List Loc) (ls : Array Slot) (x : Addr), WJ D cy ad n σx H → va_S A s.heap H locs → lv_has ls (mt k).2.2.1 [] → W p l e R s m args below meth c H locs (cells + 1) (slots + 6) Q (F0 m hpc ls [.ref x]))  (hg : ∀ pc L st σ, g pc L st σ = some (.inr ex, σx) → q_W mt p l e R s m args below meth c Q D cy ad n A k cells slots pc L st σ) {rm : Room} (hrm : rm.cells = 0 ∧ rm.slots = 0 ∧ rm.frames + 1 ≤ R.frames ∧ 49 + rm.locals ≤ R.locals) (hcl : ∀ k1 vs τ v τ1, cal k1 vs τ = some (.inl v, τ1) → (vs.map q_cat).sum ≤ (mt k1).2.2.1 → q_oks n vs → q_CT l mt rm D cy ad n A k1 vs τ v τ1) {rmx : Room} (hrx : rmx.cells = 1 ∧ rmx.slots = 6 ∧ rmx.frames + 1 ≤ R.frames ∧ 49 + rmx.locals ≤ R.locals) (hcx : ∀ k1 vs τ ex τ1, cal k1 vs τ = some (.inr ex, τ1) → (vs.map q_cat).sum ≤ (mt k1).2.2.1 → q_oks n vs → q_CX l mt rmx D cy ad n A k1 vs τ ex τ1) (ho : q_okB mt k pc (ci, ox, oa, ob, ol) = true) (h : q_stp n g cal pc (ci, ox, oa, ob, ol) L st σ = some (.inr ex, σx)) : q_W mt p l e R s m args below meth c Q D cy ad n A k cells slots pc L st σ := by
  by_cases hbig : 77 < ci ∨ ci = 5
  · rw [q_big hbig] at h
    cases h
  have hlt : ci < 78 := by omega
  match ci, hlt, hn68, hcat, ho, h with
  | 0, _, _, hcat, ho, h => exact z_0 cx hg ho h
  | 1, _, _, hcat, ho, h => exact z_1 cx hg ho h
  | 2, _, _, hcat, ho, h => exact z_2 cx hg ho h
  | 3, _, _, hcat, ho, h => exact z_3 cx hg ho h
  | 4, _, _, hcat, ho, h => exact z_4 cx hg ho h
  | 6, _, _, hcat, ho, h => exact z_6 cx hg ho h
  | 7, _, _, hcat, ho, h => exact z_7 cx hg ho h
  | 8, _, _, hcat, ho, h => exact z_8 cx hg ho h
  | 9, _, _, hcat, ho, h => exact z_9 cx hg ho h
  | 10, _, _, hcat, ho, h => exact z_10 cx hg ho h
  | 11, _, _, hcat, ho, h => exact z_11 cx hg ho h
  | 12, _, _, hcat, ho, h => exact z_12 cx hg ho h
  | 13, _, _, hcat, ho, h => exact z_13 cx hg ho h
  | 14, _, _, hcat, ho, h => exact z_14 cx hg ho h
  | 15, _, _, hcat, ho, h => exact z_15 cx hg ho h
  | 16, _, _, hcat, ho, h => exact z_16 cx hg ho h
  | 17, _, _, hcat, ho, h => exact z_17 cx hg ho h
  | 18, _, _, hcat, ho, h => exact z_18 cx hg ho h
  | 19, _, _, hcat, ho, h => exact z_19 cx hg ho h
  | 20, _, _, hcat, ho, h => exact z_20 cx hg ho h
  | 21, _, _, hcat, ho, h => exact z_21 cx hg ho h
  | 22, _, _, hcat, ho, h => exact z_22 cx hg ho h
  | 23, _, _, hcat, ho, h => exact z_23 cx hg ho h
  | 24, _, _, hcat, ho, h => exact z_24 cx hg ho h
  | 25, _, _, hcat, ho, h => exact z_25 cx hg ho h
  | 26, _, _, hcat, ho, h => exact z_26 cx hg ho h
  | 27, _, _, hcat, ho, h => exact z_27 cx hg ho h
  | 28, _, _, hcat, ho, h => exact z_28 cx hg ho h
  | 29, _, _, hcat, ho, h => exact z_29 cx hg ho h
  | 30, _, _, hcat, ho, h => exact z_30 cx hg ho h
  | 31, _, _, hcat, ho, h => exact z_31 cx hg ho h
  | 32, _, _, hcat, ho, h => exact z_32 cx hg ho h
  | 33, _, _, hcat, ho, h => exact z_33 cx hg ho h
  | 34, _, _, hcat, ho, h => exact z_34 cx hg ho h
  | 35, _, _, hcat, ho, h => exact z_35 cx hg ho h
  | 36, _, _, hcat, ho, h => exact z_36 cx hg ho h
  | 37, _, _, hcat, ho, h => exact z_37 cx hg ho h
  | 38, _, _, hcat, ho, h => exact z_38 cx hg ho h
  | 39, _, _, hcat, ho, h => exact z_39 cx hg ho h
  | 40, _, _, hcat, ho, h => exact z_40 cx hg ho h
  | 41, _, _, hcat, ho, h => exact z_41 cx hg ho h
  | 42, _, _, hcat, ho, h => exact z_42 cx hg ho h
  | 43, _, _, hcat, ho, h => exact z_43 cx hg ho h
  | 44, _, _, hcat, ho, h => exact z_44 cx hg ho h
  | 45, _, _, hcat, ho, h => exact z_45 cx hg ho h
  | 46, _, _, hcat, ho, h => exact z_46 cx hg ho h
  | 47, _, _, hcat, ho, h => exact z_47 cx hg ho h
  | 48, _, _, hcat, ho, h => exact z_48 cx hg ho h
  | 49, _, _, hcat, ho, h => exact z_49 cx hg ho h
  | 50, _, _, hcat, ho, h => exact z_50 cx hg ho h
  | 51, _, _, hcat, ho, h => exact z_51 cx hg ho h
  | 52, _, _, hcat, ho, h => exact z_52 cx hg ho h
  | 53, _, _, hcat, ho, h => exact z_53 cx hg ho h
  | 54, _, _, hcat, ho, h => exact z_54 cx hg ho h
  | 55, _, _, hcat, ho, h => exact z_55 cx hg ho h
  | 56, _, _, hcat, ho, h => exact z_56 cx hg ho h
  | 57, _, _, hcat, ho, h => exact z_57 cx hg ho h
  | 58, _, _, hcat, ho, h => exact z_58 cx hg ho h
  | 59, _, _, hcat, ho, h => exact z_59 cx hg ho h
  | 60, _, _, hcat, ho, h => exact z_60 cx hg ho h
  | 61, _, _, hcat, ho, h => exact z_61 cx hg ho h
  | 62, _, _, hcat, ho, h => exact z_62 cx hg ho h
  | 63, _, _, hcat, ho, h => exact z_63 cx hg ho h
  | 64, _, _, hcat, ho, h => exact z_64 cx hg ho h
  | 65, _, _, hcat, ho, h => exact z_65 cx hg ho h
  | 66, _, _, hcat, ho, h => exact z_66 cx hg ho h
  | 67, _, _, hcat, ho, h => exact z_67h cx hTh hTn hlaw hx1 hx4 hc1 hs6 (hcat rfl) hg hrm hcl hrx hcx ho h
  | 69, _, _, hcat, ho, h => exact z_69 cx hg ho h
  | 70, _, _, hcat, ho, h => exact z_70 cx hg ho h
  | 71, _, _, hcat, ho, h => exact z_71 cx hg ho h
  | 72, _, _, _, ho, h =>
    obtain ⟨⟨x1, x2⟩, e_x, h⟩ := Option.bind_eq_some_iff.mp (show ((q_pI st).bind fun x => match x.2 with
      | [] => (some (Sum.inl (some (.inl x.1)), σ) : Option Res)
      | _ :: _ => none) = some (Sum.inr ex, σx) from h)
    cases x2 with
    | cons _ _ =>
      replace h : none = some (Sum.inr ex, σx) := h
      cases h
    | nil =>
      replace h : ((some (Sum.inl (some (.inl x1)), σ) : Option Res)) = some (Sum.inr ex, σx) := h
      cases h
  | 73, _, _, _, ho, h =>
    obtain ⟨⟨x1, x2⟩, e_x, h⟩ := Option.bind_eq_some_iff.mp (show ((q_pI st).bind fun x => match x.2 with
      | [] => (if x.1 &&& 1 = x.1 then some (Sum.inl (some (.inl x.1)), σ) else none : Option Res)
      | _ :: _ => none) = some (Sum.inr ex, σx) from h)
    cases x2 with
    | cons _ _ =>
      replace h : none = some (Sum.inr ex, σx) := h
      cases h
    | nil =>
      replace h : ((if x1 &&& 1 = x1 then some (Sum.inl (some (.inl x1)), σ) else none : Option Res)) = some (Sum.inr ex, σx) := h
      by_cases hz : x1 &&& 1 = x1
      · rw [if_pos hz] at h
        cases h
      · rw [if_neg hz] at h
        cases h
  | 74, _, _, _, ho, h =>
    obtain ⟨⟨x1, x2⟩, e_x, h⟩ := Option.bind_eq_some_iff.mp (show ((q_pL st).bind fun x => match x.2 with
      | [] => (some (Sum.inl (some (.inr (.inl x.1))), σ) : Option Res)
      | _ :: _ => none) = some (Sum.inr ex, σx) from h)
    cases x2 with
    | cons _ _ =>
      replace h : none = some (Sum.inr ex, σx) := h
      cases h
    | nil =>
      replace h : ((some (Sum.inl (some (.inr (.inl x1))), σ) : Option Res)) = some (Sum.inr ex, σx) := h
      cases h
  | 75, _, _, _, ho, h =>
    obtain ⟨⟨x1, x2⟩, e_x, h⟩ := Option.bind_eq_some_iff.mp (show ((q_pN st).bind fun x => match x.2 with
      | [] => (some (Sum.inl (some (.inr (.inr x.1))), σ) : Option Res)
      | _ :: _ => none) = some (Sum.inr ex, σx) from h)
    cases x2 with
    | cons _ _ =>
      replace h : none = some (Sum.inr ex, σx) := h
      cases h
    | nil =>
      replace h : ((some (Sum.inl (some (.inr (.inr x1))), σ) : Option Res)) = some (Sum.inr ex, σx) := h
      cases h
  | 76, _, _, _, ho, h =>
    cases st with
    | cons _ _ =>
      replace h : none = some (Sum.inr ex, σx) := h
      cases h
    | nil =>
      replace h : some (Sum.inl none, σ) = some (Sum.inr ex, σx) := h
      cases h
  | 5, _, _, _, ho, h => exact absurd (Or.inr rfl) hbig
  | 68, _, hn, _, _, _ => exact absurd rfl hn.1
  | 77, _, hn, _, _, _ => exact absurd rfl hn.2
  | _ + 78, hl, _, _, _, _ => omega
end SNH2
section RUNH
variable {pr : Nat → Nat → Option Op} {mt : Nat → MRow} {n : Nat} {l : Launch} {D : va_G} {cy : Nat → ClassId} {ad : Nat → Nat → Nat} {A : Nat → Prop}
/-- in a method with handlers: a run that ends in an exception goes on at the handler -/
theorem q_frameH (hI : ∀ cn, va_D A (wl (idj n) ad cn)) (hpr : ∀ k pc o, pr k pc = some o → q_okB mt k pc o = true) (hpl : ∀ k, plainName (mt k).1.cls = true) (htr : ∀ e, l.admits e → e.platform.stackTraces = false) (d : Nat)
    {p : Program} {e : Env} {R : Room} {s : State} {m : MethodId} {args : Array Value} {below : List Frame} {meth : Method} {c : Code} {k cells slots : Nat} {Q : State → Prop} (cx : q_Cx mt p s m meth c args k D cy n ad A R cells slots) (hTh : q_Th A s) (hTn : q_Tn s) (hlaw : (mt k).1.cls = "JobBoardLaw") (hc1 : cells + 1 ≤ R.cells) (hs6 : slots + 6 ≤ R.slots) (hfr : d + 7 ≤ R.frames) (hlo : 49 * d + 160 ≤ R.locals) {ex : Nat} {σ1 : J} (hx1 : 1 ≤ ex) (hx4 : ex ≤ 4)
    (hno : ∀ pc o, pr k pc = some o → o.1 ≠ 68 ∧ o.1 ≠ 77)
    (hcat : ∀ pc o, pr k pc = some o → o.1 = 67 → ∃ hpc, q_pick pc ex (c.exceptionTable.toList.map (fun h => (h.startPc, h.endPc, h.handlerPc, h.catchType))) = some hpc ∧ ∀ (H : Heap) (locs : List Loc) (ls : Array Slot) (x : Addr), WJ D cy ad n σ1 H → va_S A s.heap H locs → lv_has ls (mt k).2.2.1 [] → W p l e R s m args below meth c H locs (cells + 1) (slots + 6) Q (F0 m hpc ls [.ref x])) :
    ∀ (f pc : Nat) (L : PL) (st : List PV) (σ : J), q_run pr n (d + 1) f k pc L st σ = some (.inr ex, σ1) → q_W mt p l e R s m args below meth c Q D cy ad n A k cells slots pc L st σ := by
  intro f
  induction f with
  | zero => intro pc L st σ h; cases h
  | succ f ih =>
    intro pc L st σ h
    unfold q_run at h
    cases ho : pr k pc with
    | none => rw [ho] at h; cases h
    | some o =>
      rw [ho] at h
      obtain ⟨ci, ox, oa, ob, ol⟩ := o
      have hok := hpr k pc _ ho
      exact q_allH (rm := q_rmd d) (rmx := q_rmx d) cx hTh hTn hlaw hx1 hx4 hc1 hs6 (hno pc _ ho) (fun hci => hcat pc _ ho hci) ih ⟨rfl, rfl, by show d + 1 + 1 ≤ _; omega, by show 49 + (49 * d + 60) ≤ _; omega⟩ (fun k1 vs τ v τ1 hz => q_met hI hpr hpl d f k1 vs τ v τ1 hz) ⟨rfl, rfl, by show d + 6 + 1 ≤ _; omega, by show 49 + (49 * d + 100) ≤ _; omega⟩ (fun k1 vs τ ex τ1 hz => q_metX hI hpr hpl htr d f k1 vs τ ex τ1 hz) hok h
end RUNH
end
section
/-! The law's helpers: their contracts. Ours. -/
def q_hhl : List (List (Nat × Nat × Nat × Nat)) := [[(0, 9, 12, 13), (0, 9, 15, 15)], [(0, 9, 12, 13)], [(0, 9, 12, 13), (0, 9, 15, 15)], [(0, 12, 15, 13), (0, 12, 19, 15), (0, 12, 23, 17), (0, 12, 27, 19)], [(0, 12, 15, 13), (0, 12, 19, 15), (0, 12, 23, 17)], [(0, 11, 14, 13), (0, 11, 18, 15), (0, 11, 22, 17)], [(0, 10, 13, 13), (0, 10, 17, 15), (0, 10, 21, 17)], [(0, 16, 19, 13), (0, 16, 23, 15), (0, 16, 27, 17), (0, 16, 31, 19)], [(0, 9, 12, 13)], [(0, 9, 12, 13), (0, 9, 15, 15), (0, 9, 18, 19)], [(0, 9, 12, 13), (0, 9, 15, 15), (0, 9, 18, 17), (0, 9, 21, 19)], [(0, 10, 13, 13), (0, 10, 17, 15), (0, 10, 21, 17), (0, 10, 25, 19)], [(0, 19, 22, 13), (0, 19, 26, 15), (0, 19, 30, 17)], [(0, 10, 13, 13)], [(0, 10, 13, 13)], [(0, 16, 19, 13)], [(0, 9, 12, 13), (0, 9, 15, 15), (0, 9, 18, 17), (0, 9, 21, 19)], [(0, 9, 12, 17)]]
def q_hhs (k : Nat) : List (Nat × Nat × Nat × Nat) := q_hhl.getD (k - 123) []
def q_h2 (k pc : Nat) (code : Int) : Bool := (match q_pr k pc with
  | some o => Nat.beq o.1 0 && decide (o.2.1 = code)
  | none => false) && (match q_pr k (pc + 1) with
  | some o => Nat.beq o.1 72
  | none => false)
def q_h1 (k h : Nat) (code : Int) : Bool := match q_pr k h with
  | some o => bif Nat.beq o.1 16 then q_h2 k (h + 1) code else bif Nat.beq o.1 17 then q_h2 k (h + 2) code else false
  | none => false
def q_hp (k pc ex : Nat) (code : Int) : Bool := match q_pick pc ex (q_hhs k) with
  | none => false
  | some h => q_h1 k h code
def q_hBo (k ex : Nat) (code : Int) (q : Nat × Op) : Bool := bif Nat.beq q.2.1 67 then q_hp k q.1 ex code else (!(Nat.beq q.2.1 68) && !(Nat.beq q.2.1 77))
/-- every call in k that throws ex is caught, and code is what k answers then -/
def q_hB (k ex : Nat) (code : Int) : Bool := (q_prg.getD k []).all (q_hBo k ex code)
theorem q_all_at {T : List (Nat × Op)} {F : Nat × Op → Bool} (h : T.all F = true) {pc : Nat} {o : Op} (ho : q_fd T pc = some o) : F (pc, o) = true := List.all_eq_true.mp h (pc, o) (q_fd_in ho)
theorem q_hB_at {k ex : Nat} {code : Int} (hB : q_hB k ex code = true) {pc : Nat} {o : Op} (ho : q_pr k pc = some o) : q_hBo k ex code (pc, o) = true := by
  unfold q_hB at hB
  unfold q_pr at ho
  exact q_all_at hB ho
theorem q_MQ_mono {below : List Frame} {Qc : Array Value → State → Outcome → State → Prop} {a : Array Value} {s : State} {mc ms mc' ms' : Nat} {free : Addr → Prop} (h1 : mc ≤ mc') (h2 : ms ≤ ms') {t : State} (h : MQ below Qc a s mc ms free t) : MQ below Qc a s mc' ms' free t := by
  obtain ⟨o, g1, g2, g3, L, ⟨g4, g5, g6⟩, g7⟩ := h
  exact ⟨o, g1, g2, g3, L, ⟨g4, g5, State.sameButNew.mono g6 h1 h2⟩, g7⟩
section HLP
variable {p : Program} {l : Launch} {e : Env} {R : Room} {s : State} {m : MethodId} {args : Array Value} {below : List Frame} {meth : Method} {c : Code} {D : va_G} {cy : Nat → ClassId} {ad : Nat → Nat → Nat} {n k cells slots : Nat} {A : Nat → Prop}
theorem q_hW2 (hpr : ∀ k pc o, q_pr k pc = some o → q_okB q_mt k pc o = true) (cx : q_Cx q_mt p s m meth c args k D cy n ad A R cells slots) {pc : Nat} {code : Int} {σ1 : J} (hh : q_h2 k pc code = true) {H : Heap} {locs : List Loc} {ls : Array Slot} {mc ms : Nat} (hP : WJ D cy ad n σ1 H) (hS : va_S A s.heap H locs) :
    W p l e R s m args below meth c H locs mc ms (MQ below (q_Q D cy ad n A (some (.int (Int32.ofInt code))) σ1) args s mc ms A) (F0 m pc ls []) := by
  unfold q_h2 at hh
  rw [Bool.and_eq_true] at hh
  obtain ⟨h1, h2⟩ := hh
  cases e1 : q_pr k pc with
  | none => rw [e1] at h1; cases h1
  | some o =>
    rw [e1] at h1
    obtain ⟨c1, x1, r1⟩ := o
    replace h1 : (Nat.beq c1 0 && decide (x1 = code)) = true := h1
    rw [Bool.and_eq_true] at h1
    obtain rfl := Nat.eq_of_beq_eq_true h1.1
    obtain rfl := of_decide_eq_true h1.2
    have o1 : q_dc (q_mt k).2.1 pc (.iconst x1) 1 = true := hpr k pc _ e1
    cases e2 : q_pr k (pc + 1) with
    | none => rw [e2] at h2; cases h2
    | some o =>
      rw [e2] at h2
      obtain ⟨c2, r2⟩ := o
      replace h2 : Nat.beq c2 72 = true := h2
      obtain rfl := Nat.eq_of_beq_eq_true h2
      have o2 : (q_dc (q_mt k).2.1 (pc + 1) .ireturn 1 && decide ((q_mt k).2.2.2 = some .int)) = true := hpr k (pc + 1) _ e2
      rw [Bool.and_eq_true] at o2
      refine lv_iconst cx.1 cx.2.1 (q_dd o1) rfl ?_
      exact W.iret cx.1 cx.2.1 (cx.2.2.2.2.2.2.1.trans (of_decide_eq_true o2.2)) (fun _ ht _ => ⟨rfl, by rw [ht]; exact hP, hS.F ht⟩) hS.2.2 (q_dd o2.1) cx.2.2.2.2.2.2.2.1
theorem q_hW1 (hpr : ∀ k pc o, q_pr k pc = some o → q_okB q_mt k pc o = true) (cx : q_Cx q_mt p s m meth c args k D cy n ad A R cells slots) {h : Nat} {code : Int} {σ1 : J} (hh : q_h1 k h code = true) {H : Heap} {locs : List Loc} {ls : Array Slot} {x : Addr} {mc ms : Nat} (hP : WJ D cy ad n σ1 H) (hS : va_S A s.heap H locs) (hl : lv_has ls (q_mt k).2.2.1 []) :
    W p l e R s m args below meth c H locs mc ms (MQ below (q_Q D cy ad n A (some (.int (Int32.ofInt code))) σ1) args s mc ms A) (F0 m h ls [.ref x]) := by
  unfold q_h1 at hh
  cases e1 : q_pr k h with
  | none => rw [e1] at hh; cases hh
  | some o =>
    rw [e1] at hh
    obtain ⟨c1, ox, oa, ob, ol⟩ := o
    replace hh : (bif Nat.beq c1 16 then q_h2 k (h + 1) code else bif Nat.beq c1 17 then q_h2 k (h + 2) code else false) = true := hh
    cases h16 : Nat.beq c1 16 with
    | true =>
      rw [h16] at hh
      obtain rfl := Nat.eq_of_beq_eq_true h16
      have o1 : (q_dc (q_mt k).2.1 h (.astore_n (Fin.ofNat 4 oa)) 1 && decide (((Fin.ofNat 4 oa : Fin 4) : Nat) = oa) && Nat.blt oa (q_mt k).2.2.1) = true := hpr k h _ e1
      simp only [Bool.and_eq_true] at o1
      exact lv_astore_n cx.1 cx.2.1 (q_dd o1.1.1) (of_decide_eq_true o1.1.2) hl (Nat.blt_eq.mp o1.2) rfl (fun ls' hl' => q_hW2 hpr cx hh hP hS)
    | false =>
      rw [h16] at hh
      cases h17 : Nat.beq c1 17 with
      | false => rw [h17] at hh; cases hh
      | true =>
        rw [h17] at hh
        obtain rfl := Nat.eq_of_beq_eq_true h17
        have o1 : (q_dc (q_mt k).2.1 h (.astore oa) 2 && Nat.blt oa (q_mt k).2.2.1) = true := hpr k h _ e1
        simp only [Bool.and_eq_true] at o1
        exact lv_astore cx.1 cx.2.1 (q_dd o1.1) hl (Nat.blt_eq.mp o1.2) rfl (fun ls' hl' => q_hW2 hpr cx hh hP hS)
end HLP
def q_rmh (d : Nat) : Room := { frames := d + 7, cells := 1, slots := 6, locals := 49 * d + 160 }
/-- what a helper answers: its own answer, or the code of what was thrown -/
def q_hv (cd : Nat → Int) (r : Option PV ⊕ Nat) : Option PV := match r with
  | .inl v => v
  | .inr ex => some (.inl (Int32.ofInt (cd ex)))
abbrev q_hcw (k : Nat) : Cond := Cond.codeWith (q_mt k).1 (q_mt k).2.1 (q_mt k).2.2.1 (q_mt k).2.2.2 (q_hhs k)
theorem q_metH {n : Nat} {l : Launch} {D : va_G} {cy : Nat → ClassId} {ad : Nat → Nat → Nat} {A : Nat → Prop} (hI : ∀ cn, va_D A (wl (idj n) ad cn)) (hpr : ∀ k pc o, q_pr k pc = some o → q_okB q_mt k pc o = true) (hpl : ∀ k, plainName (q_mt k).1.cls = true) (htr : ∀ e, l.admits e → e.platform.stackTraces = false)
    {d f k : Nat} {vs : List PV} {σ : J} {r : Option PV ⊕ Nat} {σ1 : J} {cd : Nat → Int} (hlaw : (q_mt k).1.cls = "JobBoardLaw") (hcd : ∀ ex, r = .inr ex → 1 ≤ ex ∧ ex ≤ 4 ∧ q_hB k ex (cd ex) = true) (h : q_run q_pr n (d + 1) f k 0 (q_args 0 vs) [] σ = some (r, σ1)) (hw : (vs.map q_cat).sum ≤ (q_mt k).2.2.1) (hk : q_oks n vs) :
    Met l (q_mt k).1 (q_hcw k :: gt) (q_rmh d) (va_Pc (vs.map (q_tv ad)) (fun U => WJ D cy ad n σ U.heap ∧ va_K D vcl (q_ty cy) U ∧ q_Th A U ∧ q_Tn U)) (q_Q D cy ad n A ((q_hv cd r).map (q_tv ad)) σ1) 1 6 A := by
  refine va_MetW (cc := (q_mt k).2.1) (maxL := (q_mt k).2.2.1) (ret := (q_mt k).2.2.2) (hpl k) rfl ?_
  intro p e s m args below meth c s₁ B hml hv
  obtain ⟨rfl, hP, hK, hTh, hTn⟩ := hv
  rw [lg_entry_eq]
  have hpre := atoms_spec (ws := q_hcw k :: gt) B.pre
  have cx : q_Cx q_mt p s m meth c (vs.map (q_tv ad)).toArray k D cy n ad A (q_rmh d) 0 0 := ⟨B.exec, B.bytes, hml, findClass_of_methodNamed B.named, fun w h => hpre w (List.mem_cons_of_mem _ h), hK, B.returns, B.notSynchronized, hI, by show 1 ≤ d + 7; omega, by show 40 ≤ 49 * d + 160; omega, Nat.zero_le _, Nat.zero_le _⟩
  have he := q_args_has (lv_entry (vs.map (q_tv ad)) (n := (q_mt k).2.2.1) (by rw [q_sl_len, q_cats]; exact hw))
  have hLk : ∀ b w, q_args 0 vs b = some w → q_ok n w = true := fun b w hb => q_oks_iff.mp hk _ (q_args_in (ad := ad) hb).1
  cases r with
  | inl v =>
    have hW := q_frame (l := l) (e := e) (below := below) hpr (d + 1) (fun d' hd' => q_met hI hpr hpl d') cx (by show d + 1 + 1 ≤ d + 7; omega) (by show 49 * (d + 1) + 60 ≤ 49 * d + 160; omega) f 0 (q_args 0 vs) [] σ h s.heap [] _ hP va_S.rf he hLk trivial
    intro T hT X
    obtain ⟨t, a1, b1⟩ := hW T hT X
    exact ⟨t, a1, q_MQ_mono (by decide) (by decide) b1⟩
  | inr ex =>
    obtain ⟨hx1, hx4, hB⟩ := hcd ex rfl
    have htab : c.exceptionTable.toList.map (fun h => (h.startPc, h.endPc, h.handlerPc, h.catchType)) = q_hhs k := by
      obtain ⟨m9, meth9, c9, hn9, h1, h2, h3, h4, h5, -⟩ := Cond.codeWith_spec (hpre _ List.mem_cons_self)
      cases B.named.symm.trans hn9
      cases B.method.symm.trans h1
      cases (Stand.of_body B).code.symm.trans h2
      exact h5
    have hall : ∀ pc o, q_pr k pc = some o → q_hBo k ex (cd ex) (pc, o) = true := fun pc o ho => q_hB_at hB ho
    exact q_frameH hI hpr hpl htr d cx hTh hTn hlaw (Nat.le_refl _) (Nat.le_refl _) (Nat.le_refl _) (Nat.le_refl _) hx1 hx4 (fun pc o ho => by
        have h1 : (bif Nat.beq o.1 67 then q_hp k pc ex (cd ex) else (!(Nat.beq o.1 68) && !(Nat.beq o.1 77))) = true := hall pc o ho
        cases h67 : Nat.beq o.1 67 with
        | true =>
          have := Nat.eq_of_beq_eq_true h67
          omega
        | false =>
          rw [h67] at h1
          replace h1 : (!(Nat.beq o.1 68) && !(Nat.beq o.1 77)) = true := h1
          simp only [Bool.and_eq_true, Bool.not_eq_true'] at h1
          exact ⟨q_beq_ne h1.1, q_beq_ne h1.2⟩) (fun pc o ho h67 => by
        have h1 : (bif Nat.beq o.1 67 then q_hp k pc ex (cd ex) else (!(Nat.beq o.1 68) && !(Nat.beq o.1 77))) = true := hall pc o ho
        rw [h67, show Nat.beq 67 67 = true from rfl, cond_true] at h1
        unfold q_hp at h1
        rw [htab]
        cases hpk : q_pick pc ex (q_hhs k) with
        | none => rw [hpk] at h1; cases h1
        | some hp =>
          rw [hpk] at h1
          exact ⟨hp, rfl, fun H locs ls x hP hS hl => q_hW1 hpr cx h1 hP hS hl⟩) f 0 (q_args 0 vs) [] σ h s.heap [] _ hP va_S.rf he hLk trivial
end
