section
-- ===== PART A: goes FIRST, ahead of the names: the tables' words, and 'selects' of the private methods out of them =====
/-- a private method of a class that the tables say can be made, by its rows of tables_1 -/
def lw_okq (q : MethodName × Nat) : Prop := (q.1.cls ≠ "java/lang/invoke/MethodHandle" ∧ q.1.cls ≠ "java/lang/invoke/VarHandle") ∧ Cond.instantiable q.1.cls q.2 ∈ tables_1 ∧ Cond.privateMethod q.1 ∈ tables_1 ∧ Cond.instanceMethod q.1 ∈ tables_1
theorem lw_p0 : lw_okq (⟨"JobBoard", "readySession", "(I)LJobBoard$Session;"⟩, 7) := ⟨⟨by decide +kernel, by decide +kernel⟩, List.mem_of_getElem? (i := 21) (by decide +kernel), List.mem_of_getElem? (i := 298) (by decide +kernel), List.mem_of_getElem? (i := 299) (by decide +kernel)⟩
theorem lw_p1 : lw_okq (⟨"JobBoard", "sessionAt", "(I)LJobBoard$Session;"⟩, 7) := ⟨⟨by decide +kernel, by decide +kernel⟩, List.mem_of_getElem? (i := 21) (by decide +kernel), List.mem_of_getElem? (i := 302) (by decide +kernel), List.mem_of_getElem? (i := 303) (by decide +kernel)⟩
theorem lw_p2 : lw_okq (⟨"java/lang/Throwable", "fillInStackTrace", "(I)Ljava/lang/Throwable;"⟩, 6) := ⟨⟨by decide +kernel, by decide +kernel⟩, List.mem_of_getElem? (i := 345) (by decide +kernel), List.mem_of_getElem? (i := 343) (by decide +kernel), List.mem_of_getElem? (i := 344) (by decide +kernel)⟩
theorem lw_p3 : lw_okq (⟨"JobBoard", "leaseEnd", "(I)I"⟩, 7) := ⟨⟨by decide +kernel, by decide +kernel⟩, List.mem_of_getElem? (i := 21) (by decide +kernel), List.mem_of_getElem? (i := 464) (by decide +kernel), List.mem_of_getElem? (i := 465) (by decide +kernel)⟩
theorem lw_p4 : lw_okq (⟨"JobBoard", "placeDraft", "(LJobBoard$Session;I)I"⟩, 7) := ⟨⟨by decide +kernel, by decide +kernel⟩, List.mem_of_getElem? (i := 21) (by decide +kernel), List.mem_of_getElem? (i := 468) (by decide +kernel), List.mem_of_getElem? (i := 469) (by decide +kernel)⟩
theorem lw_p5 : lw_okq (⟨"JobBoard$Board", "closeGaps", "()V"⟩, 3) := ⟨⟨by decide +kernel, by decide +kernel⟩, List.mem_of_getElem? (i := 139) (by decide +kernel), List.mem_of_getElem? (i := 476) (by decide +kernel), List.mem_of_getElem? (i := 477) (by decide +kernel)⟩
theorem lw_p6 : lw_okq (⟨"JobBoard", "report", "(LJobBoard$Tuple;)V"⟩, 7) := ⟨⟨by decide +kernel, by decide +kernel⟩, List.mem_of_getElem? (i := 21) (by decide +kernel), List.mem_of_getElem? (i := 504) (by decide +kernel), List.mem_of_getElem? (i := 505) (by decide +kernel)⟩
theorem lw_p7 : lw_okq (⟨"JobBoard", "fitsAlone", "(LJobBoard$Pattern;LJobBoard$Tuple;)Z"⟩, 7) := ⟨⟨by decide +kernel, by decide +kernel⟩, List.mem_of_getElem? (i := 21) (by decide +kernel), List.mem_of_getElem? (i := 508) (by decide +kernel), List.mem_of_getElem? (i := 509) (by decide +kernel)⟩
theorem lw_p8 : lw_okq (⟨"JobBoard$Pattern", "holds", "(IIJLJobBoard$Finding;)Z"⟩, 4) := ⟨⟨by decide +kernel, by decide +kernel⟩, List.mem_of_getElem? (i := 86) (by decide +kernel), List.mem_of_getElem? (i := 520) (by decide +kernel), List.mem_of_getElem? (i := 521) (by decide +kernel)⟩
theorem lw_p9 : lw_okq (⟨"JobBoard", "serveLine", "()V"⟩, 7) := ⟨⟨by decide +kernel, by decide +kernel⟩, List.mem_of_getElem? (i := 21) (by decide +kernel), List.mem_of_getElem? (i := 538) (by decide +kernel), List.mem_of_getElem? (i := 539) (by decide +kernel)⟩
theorem lw_p10 : lw_okq (⟨"JobBoard", "searchFor", "(LJobBoard$Session;I)Z"⟩, 7) := ⟨⟨by decide +kernel, by decide +kernel⟩, List.mem_of_getElem? (i := 21) (by decide +kernel), List.mem_of_getElem? (i := 542) (by decide +kernel), List.mem_of_getElem? (i := 543) (by decide +kernel)⟩
theorem lw_p11 : lw_okq (⟨"JobBoard", "extend", "(LJobBoard$Session;II)Z"⟩, 7) := ⟨⟨by decide +kernel, by decide +kernel⟩, List.mem_of_getElem? (i := 21) (by decide +kernel), List.mem_of_getElem? (i := 546) (by decide +kernel), List.mem_of_getElem? (i := 547) (by decide +kernel)⟩
theorem lw_p12 : lw_okq (⟨"JobBoard", "grant", "(LJobBoard$Session;)V"⟩, 7) := ⟨⟨by decide +kernel, by decide +kernel⟩, List.mem_of_getElem? (i := 21) (by decide +kernel), List.mem_of_getElem? (i := 562) (by decide +kernel), List.mem_of_getElem? (i := 563) (by decide +kernel)⟩
theorem lw_p13 : lw_okq (⟨"JobBoard", "endWait", "(LJobBoard$Session;I)V"⟩, 7) := ⟨⟨by decide +kernel, by decide +kernel⟩, List.mem_of_getElem? (i := 21) (by decide +kernel), List.mem_of_getElem? (i := 576) (by decide +kernel), List.mem_of_getElem? (i := 577) (by decide +kernel)⟩
theorem lw_p14 : lw_okq (⟨"JobBoard", "settle", "(I)V"⟩, 7) := ⟨⟨by decide +kernel, by decide +kernel⟩, List.mem_of_getElem? (i := 21) (by decide +kernel), List.mem_of_getElem? (i := 695) (by decide +kernel), List.mem_of_getElem? (i := 696) (by decide +kernel)⟩
theorem lw_p15 : lw_okq (⟨"JobBoard", "abandonDownTo", "(LJobBoard$Session;I)Z"⟩, 7) := ⟨⟨by decide +kernel, by decide +kernel⟩, List.mem_of_getElem? (i := 21) (by decide +kernel), List.mem_of_getElem? (i := 709) (by decide +kernel), List.mem_of_getElem? (i := 710) (by decide +kernel)⟩
def lw_privs_1 : List (MethodName × Nat) := [(⟨"JobBoard", "readySession", "(I)LJobBoard$Session;"⟩, 7), (⟨"JobBoard", "sessionAt", "(I)LJobBoard$Session;"⟩, 7), (⟨"java/lang/Throwable", "fillInStackTrace", "(I)Ljava/lang/Throwable;"⟩, 6), (⟨"JobBoard", "leaseEnd", "(I)I"⟩, 7), (⟨"JobBoard", "placeDraft", "(LJobBoard$Session;I)I"⟩, 7), (⟨"JobBoard$Board", "closeGaps", "()V"⟩, 3), (⟨"JobBoard", "report", "(LJobBoard$Tuple;)V"⟩, 7), (⟨"JobBoard", "fitsAlone", "(LJobBoard$Pattern;LJobBoard$Tuple;)Z"⟩, 7), (⟨"JobBoard$Pattern", "holds", "(IIJLJobBoard$Finding;)Z"⟩, 4), (⟨"JobBoard", "serveLine", "()V"⟩, 7), (⟨"JobBoard", "searchFor", "(LJobBoard$Session;I)Z"⟩, 7), (⟨"JobBoard", "extend", "(LJobBoard$Session;II)Z"⟩, 7), (⟨"JobBoard", "grant", "(LJobBoard$Session;)V"⟩, 7), (⟨"JobBoard", "endWait", "(LJobBoard$Session;I)V"⟩, 7), (⟨"JobBoard", "settle", "(I)V"⟩, 7), (⟨"JobBoard", "abandonDownTo", "(LJobBoard$Session;I)Z"⟩, 7)]
theorem lw_r1 : ∀ q ∈ lw_privs_1, lw_okq q := List.forall_mem_cons.mpr ⟨lw_p0, List.forall_mem_cons.mpr ⟨lw_p1, List.forall_mem_cons.mpr ⟨lw_p2, List.forall_mem_cons.mpr ⟨lw_p3, List.forall_mem_cons.mpr ⟨lw_p4, List.forall_mem_cons.mpr ⟨lw_p5, List.forall_mem_cons.mpr ⟨lw_p6, List.forall_mem_cons.mpr ⟨lw_p7, List.forall_mem_cons.mpr ⟨lw_p8, List.forall_mem_cons.mpr ⟨lw_p9, List.forall_mem_cons.mpr ⟨lw_p10, List.forall_mem_cons.mpr ⟨lw_p11, List.forall_mem_cons.mpr ⟨lw_p12, List.forall_mem_cons.mpr ⟨lw_p13, List.forall_mem_cons.mpr ⟨lw_p14, List.forall_mem_cons.mpr ⟨lw_p15, fun _ h => absurd h List.not_mem_nil⟩⟩⟩⟩⟩⟩⟩⟩⟩⟩⟩⟩⟩⟩⟩⟩
theorem lw_p16 : lw_okq (⟨"JobBoard", "endTuple", "(LJobBoard$Tuple;)Z"⟩, 7) := ⟨⟨by decide +kernel, by decide +kernel⟩, List.mem_of_getElem? (i := 21) (by decide +kernel), List.mem_of_getElem? (i := 736) (by decide +kernel), List.mem_of_getElem? (i := 737) (by decide +kernel)⟩
theorem lw_p17 : lw_okq (⟨"JobBoardModel", "clear", "(I)V"⟩, 37) := ⟨⟨by decide +kernel, by decide +kernel⟩, List.mem_of_getElem? (i := 775) (by decide +kernel), List.mem_of_getElem? (i := 781) (by decide +kernel), List.mem_of_getElem? (i := 782) (by decide +kernel)⟩
theorem lw_p18 : lw_okq (⟨"JobBoardModel", "first", "(IZ)I"⟩, 37) := ⟨⟨by decide +kernel, by decide +kernel⟩, List.mem_of_getElem? (i := 775) (by decide +kernel), List.mem_of_getElem? (i := 910) (by decide +kernel), List.mem_of_getElem? (i := 911) (by decide +kernel)⟩
theorem lw_p19 : lw_okq (⟨"JobBoardModel", "isSession", "(I)Z"⟩, 37) := ⟨⟨by decide +kernel, by decide +kernel⟩, List.mem_of_getElem? (i := 775) (by decide +kernel), List.mem_of_getElem? (i := 914) (by decide +kernel), List.mem_of_getElem? (i := 915) (by decide +kernel)⟩
theorem lw_p20 : lw_okq (⟨"JobBoardModel", "standing", "(I)I"⟩, 37) := ⟨⟨by decide +kernel, by decide +kernel⟩, List.mem_of_getElem? (i := 775) (by decide +kernel), List.mem_of_getElem? (i := 918) (by decide +kernel), List.mem_of_getElem? (i := 919) (by decide +kernel)⟩
theorem lw_p21 : lw_okq (⟨"JobBoardModel", "add", "(II)I"⟩, 37) := ⟨⟨by decide +kernel, by decide +kernel⟩, List.mem_of_getElem? (i := 775) (by decide +kernel), List.mem_of_getElem? (i := 937) (by decide +kernel), List.mem_of_getElem? (i := 938) (by decide +kernel)⟩
theorem lw_p22 : lw_okq (⟨"JobBoardModel", "outside", "(I)V"⟩, 37) := ⟨⟨by decide +kernel, by decide +kernel⟩, List.mem_of_getElem? (i := 775) (by decide +kernel), List.mem_of_getElem? (i := 941) (by decide +kernel), List.mem_of_getElem? (i := 942) (by decide +kernel)⟩
theorem lw_p23 : lw_okq (⟨"JobBoardModel", "fits", "(III)Z"⟩, 37) := ⟨⟨by decide +kernel, by decide +kernel⟩, List.mem_of_getElem? (i := 775) (by decide +kernel), List.mem_of_getElem? (i := 945) (by decide +kernel), List.mem_of_getElem? (i := 946) (by decide +kernel)⟩
theorem lw_p24 : lw_okq (⟨"JobBoardModel", "holds", "(III)Z"⟩, 37) := ⟨⟨by decide +kernel, by decide +kernel⟩, List.mem_of_getElem? (i := 775) (by decide +kernel), List.mem_of_getElem? (i := 949) (by decide +kernel), List.mem_of_getElem? (i := 950) (by decide +kernel)⟩
theorem lw_p25 : lw_okq (⟨"JobBoardModel", "bound", "(II)Z"⟩, 37) := ⟨⟨by decide +kernel, by decide +kernel⟩, List.mem_of_getElem? (i := 775) (by decide +kernel), List.mem_of_getElem? (i := 953) (by decide +kernel), List.mem_of_getElem? (i := 954) (by decide +kernel)⟩
theorem lw_p26 : lw_okq (⟨"JobBoardModel", "serve", "()V"⟩, 37) := ⟨⟨by decide +kernel, by decide +kernel⟩, List.mem_of_getElem? (i := 775) (by decide +kernel), List.mem_of_getElem? (i := 958) (by decide +kernel), List.mem_of_getElem? (i := 959) (by decide +kernel)⟩
theorem lw_p27 : lw_okq (⟨"JobBoardModel", "search", "(II)Z"⟩, 37) := ⟨⟨by decide +kernel, by decide +kernel⟩, List.mem_of_getElem? (i := 775) (by decide +kernel), List.mem_of_getElem? (i := 962) (by decide +kernel), List.mem_of_getElem? (i := 963) (by decide +kernel)⟩
theorem lw_p28 : lw_okq (⟨"JobBoardModel", "next", "(III)I"⟩, 37) := ⟨⟨by decide +kernel, by decide +kernel⟩, List.mem_of_getElem? (i := 775) (by decide +kernel), List.mem_of_getElem? (i := 966) (by decide +kernel), List.mem_of_getElem? (i := 967) (by decide +kernel)⟩
theorem lw_p29 : lw_okq (⟨"JobBoardModel", "sees", "(II)Z"⟩, 37) := ⟨⟨by decide +kernel, by decide +kernel⟩, List.mem_of_getElem? (i := 775) (by decide +kernel), List.mem_of_getElem? (i := 970) (by decide +kernel), List.mem_of_getElem? (i := 971) (by decide +kernel)⟩
theorem lw_p30 : lw_okq (⟨"JobBoardModel", "leave", "(I)V"⟩, 37) := ⟨⟨by decide +kernel, by decide +kernel⟩, List.mem_of_getElem? (i := 775) (by decide +kernel), List.mem_of_getElem? (i := 974) (by decide +kernel), List.mem_of_getElem? (i := 975) (by decide +kernel)⟩
theorem lw_p31 : lw_okq (⟨"JobBoardModel", "keep", "(IIZ)V"⟩, 37) := ⟨⟨by decide +kernel, by decide +kernel⟩, List.mem_of_getElem? (i := 775) (by decide +kernel), List.mem_of_getElem? (i := 978) (by decide +kernel), List.mem_of_getElem? (i := 979) (by decide +kernel)⟩
def lw_privs_2 : List (MethodName × Nat) := [(⟨"JobBoard", "endTuple", "(LJobBoard$Tuple;)Z"⟩, 7), (⟨"JobBoardModel", "clear", "(I)V"⟩, 37), (⟨"JobBoardModel", "first", "(IZ)I"⟩, 37), (⟨"JobBoardModel", "isSession", "(I)Z"⟩, 37), (⟨"JobBoardModel", "standing", "(I)I"⟩, 37), (⟨"JobBoardModel", "add", "(II)I"⟩, 37), (⟨"JobBoardModel", "outside", "(I)V"⟩, 37), (⟨"JobBoardModel", "fits", "(III)Z"⟩, 37), (⟨"JobBoardModel", "holds", "(III)Z"⟩, 37), (⟨"JobBoardModel", "bound", "(II)Z"⟩, 37), (⟨"JobBoardModel", "serve", "()V"⟩, 37), (⟨"JobBoardModel", "search", "(II)Z"⟩, 37), (⟨"JobBoardModel", "next", "(III)I"⟩, 37), (⟨"JobBoardModel", "sees", "(II)Z"⟩, 37), (⟨"JobBoardModel", "leave", "(I)V"⟩, 37), (⟨"JobBoardModel", "keep", "(IIZ)V"⟩, 37)]
theorem lw_r2 : ∀ q ∈ lw_privs_2, lw_okq q := List.forall_mem_cons.mpr ⟨lw_p16, List.forall_mem_cons.mpr ⟨lw_p17, List.forall_mem_cons.mpr ⟨lw_p18, List.forall_mem_cons.mpr ⟨lw_p19, List.forall_mem_cons.mpr ⟨lw_p20, List.forall_mem_cons.mpr ⟨lw_p21, List.forall_mem_cons.mpr ⟨lw_p22, List.forall_mem_cons.mpr ⟨lw_p23, List.forall_mem_cons.mpr ⟨lw_p24, List.forall_mem_cons.mpr ⟨lw_p25, List.forall_mem_cons.mpr ⟨lw_p26, List.forall_mem_cons.mpr ⟨lw_p27, List.forall_mem_cons.mpr ⟨lw_p28, List.forall_mem_cons.mpr ⟨lw_p29, List.forall_mem_cons.mpr ⟨lw_p30, List.forall_mem_cons.mpr ⟨lw_p31, fun _ h => absurd h List.not_mem_nil⟩⟩⟩⟩⟩⟩⟩⟩⟩⟩⟩⟩⟩⟩⟩⟩
theorem lw_p32 : lw_okq (⟨"JobBoardModel", "place", "(I)I"⟩, 37) := ⟨⟨by decide +kernel, by decide +kernel⟩, List.mem_of_getElem? (i := 775) (by decide +kernel), List.mem_of_getElem? (i := 982) (by decide +kernel), List.mem_of_getElem? (i := 983) (by decide +kernel)⟩
theorem lw_p33 : lw_okq (⟨"JobBoardModel", "remove", "(I)V"⟩, 37) := ⟨⟨by decide +kernel, by decide +kernel⟩, List.mem_of_getElem? (i := 775) (by decide +kernel), List.mem_of_getElem? (i := 986) (by decide +kernel), List.mem_of_getElem? (i := 987) (by decide +kernel)⟩
theorem lw_p34 : lw_okq (⟨"JobBoardModel", "ready", "(II)Z"⟩, 37) := ⟨⟨by decide +kernel, by decide +kernel⟩, List.mem_of_getElem? (i := 775) (by decide +kernel), List.mem_of_getElem? (i := 994) (by decide +kernel), List.mem_of_getElem? (i := 995) (by decide +kernel)⟩
theorem lw_p35 : lw_okq (⟨"JobBoardModel", "isPut", "(II)Z"⟩, 37) := ⟨⟨by decide +kernel, by decide +kernel⟩, List.mem_of_getElem? (i := 775) (by decide +kernel), List.mem_of_getElem? (i := 1026) (by decide +kernel), List.mem_of_getElem? (i := 1027) (by decide +kernel)⟩
theorem lw_p36 : lw_okq (⟨"JobBoardModel", "isTaken", "(II)Z"⟩, 37) := ⟨⟨by decide +kernel, by decide +kernel⟩, List.mem_of_getElem? (i := 775) (by decide +kernel), List.mem_of_getElem? (i := 1030) (by decide +kernel), List.mem_of_getElem? (i := 1031) (by decide +kernel)⟩
theorem lw_p37 : lw_okq (⟨"JobBoardModel", "drop", "(I)I"⟩, 37) := ⟨⟨by decide +kernel, by decide +kernel⟩, List.mem_of_getElem? (i := 775) (by decide +kernel), List.mem_of_getElem? (i := 1038) (by decide +kernel), List.mem_of_getElem? (i := 1039) (by decide +kernel)⟩
theorem lw_p38 : lw_okq (⟨"JobBoardModel", "ending", "()I"⟩, 37) := ⟨⟨by decide +kernel, by decide +kernel⟩, List.mem_of_getElem? (i := 775) (by decide +kernel), List.mem_of_getElem? (i := 1050) (by decide +kernel), List.mem_of_getElem? (i := 1051) (by decide +kernel)⟩
def lw_privs_3 : List (MethodName × Nat) := [(⟨"JobBoardModel", "place", "(I)I"⟩, 37), (⟨"JobBoardModel", "remove", "(I)V"⟩, 37), (⟨"JobBoardModel", "ready", "(II)Z"⟩, 37), (⟨"JobBoardModel", "isPut", "(II)Z"⟩, 37), (⟨"JobBoardModel", "isTaken", "(II)Z"⟩, 37), (⟨"JobBoardModel", "drop", "(I)I"⟩, 37), (⟨"JobBoardModel", "ending", "()I"⟩, 37)]
theorem lw_r3 : ∀ q ∈ lw_privs_3, lw_okq q := List.forall_mem_cons.mpr ⟨lw_p32, List.forall_mem_cons.mpr ⟨lw_p33, List.forall_mem_cons.mpr ⟨lw_p34, List.forall_mem_cons.mpr ⟨lw_p35, List.forall_mem_cons.mpr ⟨lw_p36, List.forall_mem_cons.mpr ⟨lw_p37, List.forall_mem_cons.mpr ⟨lw_p38, fun _ h => absurd h List.not_mem_nil⟩⟩⟩⟩⟩⟩⟩
def lw_privs : List (MethodName × Nat) := lw_privs_1 ++ (lw_privs_2 ++ (lw_privs_3))
def lw_tbl : List Cond := k2_sels lw_privs ++ tables_1
theorem lw_privs_ok : ∀ q ∈ lw_privs, lw_okq q := by
  show ∀ q ∈ lw_privs_1 ++ (lw_privs_2 ++ (lw_privs_3)), lw_okq q
  exact List.forall_mem_append.mpr ⟨lw_r1, List.forall_mem_append.mpr ⟨lw_r2, lw_r3⟩⟩
end
section
/-! The classes: names, fields, their words. Ours, written by ops.py -/
theorem tb_of {i : Nat} {w : Cond} (h : tables_1[i]? = some w) : w ∈ lw_tbl := List.mem_append_right _ (List.mem_of_getElem? h)
def gt : List Cond := lw_tbl.filter goodWord
theorem gt_of {w : Cond} (h : w ∈ lw_tbl) (g : goodWord w = true) : w ∈ gt := List.mem_filter.mpr ⟨h, g⟩
theorem in_ps {ws : List Cond} (ps : List Nat) (hp : ws = ps.filterMap (fun i => tables_1[i]?)) (hg : ws.all goodWord = true) : ∀ w ∈ ws, w ∈ gt := by
  intro w hw
  have hg := List.all_eq_true.mp hg w hw
  rw [hp] at hw
  obtain ⟨i, -, hi⟩ := List.mem_filterMap.mp hw
  exact gt_of (tb_of hi) hg
abbrev R_JB : String := "JobBoard"
def F_JB : u_T := fun k => match k with
  | 0 => ("JobBoard", "sessions", "[LJobBoard$Session;", true)
  | 1 => ("JobBoard", "board", "LJobBoard$Board;", true)
  | 2 => ("JobBoard", "line", "LJobBoard$Line;", true)
  | 3 => ("JobBoard", "orders", "[LJobBoard$Order;", true)
  | 4 => ("JobBoard", "orderCount", "I", false)
  | 5 => ("JobBoard", "time", "I", false)
  | _ => ("JobBoard", "trial", "LJobBoard$Finding;", true)
def t_JB : Nat → FieldType := fun k => match k with
  | 0 => .array (.object "JobBoard$Session")
  | 1 => .object "JobBoard$Board"
  | 2 => .object "JobBoard$Line"
  | 3 => .array (.object "JobBoard$Order")
  | 4 => .int
  | 5 => .int
  | _ => .object "JobBoard$Finding"
theorem n_JB : ∀ a, a < 7 → ∀ b, b < 7 → a ≠ b → (F_JB a).2.1 ≠ (F_JB b).2.1 := by decide +kernel
theorem t_JB_ok : ∀ k, k < 7 → parseFieldDescriptor (F_JB k).2.2.1 = some (t_JB k) := by decide +kernel
theorem in_JB : ∀ w ∈ u_ws R_JB F_JB 7, w ∈ gt := in_ps [246, 248, 250, 252, 254, 256, 258] (by decide +kernel) (by decide +kernel)
abbrev R_Board : String := "JobBoard$Board"
def F_Board : u_T := fun k => match k with
  | 0 => ("JobBoard$Board", "rows", "[LJobBoard$Tuple;", true)
  | 1 => ("JobBoard$Board", "used", "I", false)
  | _ => ("JobBoard$Board", "lastNumber", "I", false)
def t_Board : Nat → FieldType := fun k => match k with
  | 0 => .array (.object "JobBoard$Tuple")
  | 1 => .int
  | _ => .int
theorem n_Board : ∀ a, a < 3 → ∀ b, b < 3 → a ≠ b → (F_Board a).2.1 ≠ (F_Board b).2.1 := by decide +kernel
theorem t_Board_ok : ∀ k, k < 3 → parseFieldDescriptor (F_Board k).2.2.1 = some (t_Board k) := by decide +kernel
theorem in_Board : ∀ w ∈ u_ws R_Board F_Board 3, w ∈ gt := in_ps [192, 194, 196] (by decide +kernel) (by decide +kernel)
abbrev R_Tuple : String := "JobBoard$Tuple"
def F_Tuple : u_T := fun k => match k with
  | 0 => ("JobBoard$Tuple", "onBoard", "Z", false)
  | 1 => ("JobBoard$Tuple", "number", "I", false)
  | 2 => ("JobBoard$Tuple", "leaseEnd", "I", false)
  | 3 => ("JobBoard$Tuple", "putSession", "I", false)
  | 4 => ("JobBoard$Tuple", "putDeal", "I", false)
  | 5 => ("JobBoard$Tuple", "takenSession", "I", false)
  | 6 => ("JobBoard$Tuple", "takenDeal", "I", false)
  | _ => ("JobBoard$Tuple", "fields", "LJobBoard$Fields;", true)
def t_Tuple : Nat → FieldType := fun k => match k with
  | 0 => .boolean
  | 1 => .int
  | 2 => .int
  | 3 => .int
  | 4 => .int
  | 5 => .int
  | 6 => .int
  | _ => .object "JobBoard$Fields"
theorem n_Tuple : ∀ a, a < 8 → ∀ b, b < 8 → a ≠ b → (F_Tuple a).2.1 ≠ (F_Tuple b).2.1 := by decide +kernel
theorem t_Tuple_ok : ∀ k, k < 8 → parseFieldDescriptor (F_Tuple k).2.2.1 = some (t_Tuple k) := by decide +kernel
theorem in_Tuple : ∀ w ∈ u_ws R_Tuple F_Tuple 8, w ∈ gt := in_ps [170, 172, 174, 176, 178, 180, 182, 184] (by decide +kernel) (by decide +kernel)
abbrev R_Fields : String := "JobBoard$Fields"
def F_Fields : u_T := fun k => match k with
  | 0 => ("JobBoard$Fields", "count", "I", false)
  | 1 => ("JobBoard$Fields", "kinds", "[I", true)
  | _ => ("JobBoard$Fields", "values", "[J", true)
def t_Fields : Nat → FieldType := fun k => match k with
  | 0 => .int
  | 1 => .array .int
  | _ => .array .long
theorem n_Fields : ∀ a, a < 3 → ∀ b, b < 3 → a ≠ b → (F_Fields a).2.1 ≠ (F_Fields b).2.1 := by decide +kernel
theorem t_Fields_ok : ∀ k, k < 3 → parseFieldDescriptor (F_Fields k).2.2.1 = some (t_Fields k) := by decide +kernel
theorem in_Fields : ∀ w ∈ u_ws R_Fields F_Fields 3, w ∈ gt := in_ps [54, 56, 58] (by decide +kernel) (by decide +kernel)
abbrev R_Pattern : String := "JobBoard$Pattern"
def F_Pattern : u_T := fun k => match k with
  | 0 => ("JobBoard$Pattern", "count", "I", false)
  | 1 => ("JobBoard$Pattern", "codes", "[I", true)
  | 2 => ("JobBoard$Pattern", "as", "[J", true)
  | _ => ("JobBoard$Pattern", "bs", "[J", true)
def t_Pattern : Nat → FieldType := fun k => match k with
  | 0 => .int
  | 1 => .array .int
  | 2 => .array .long
  | _ => .array .long
theorem n_Pattern : ∀ a, a < 4 → ∀ b, b < 4 → a ≠ b → (F_Pattern a).2.1 ≠ (F_Pattern b).2.1 := by decide +kernel
theorem t_Pattern_ok : ∀ k, k < 4 → parseFieldDescriptor (F_Pattern k).2.2.1 = some (t_Pattern k) := by decide +kernel
theorem in_Pattern : ∀ w ∈ u_ws R_Pattern F_Pattern 4, w ∈ gt := in_ps [97, 99, 101, 103] (by decide +kernel) (by decide +kernel)
abbrev R_Finding : String := "JobBoard$Finding"
def F_Finding : u_T := fun k => match k with
  | 0 => ("JobBoard$Finding", "numbers", "[I", true)
  | 1 => ("JobBoard$Finding", "bound", "I", false)
  | 2 => ("JobBoard$Finding", "kinds", "[I", true)
  | _ => ("JobBoard$Finding", "values", "[J", true)
def t_Finding : Nat → FieldType := fun k => match k with
  | 0 => .array .int
  | 1 => .int
  | 2 => .array .int
  | _ => .array .long
theorem n_Finding : ∀ a, a < 4 → ∀ b, b < 4 → a ≠ b → (F_Finding a).2.1 ≠ (F_Finding b).2.1 := by decide +kernel
theorem t_Finding_ok : ∀ k, k < 4 → parseFieldDescriptor (F_Finding k).2.2.1 = some (t_Finding k) := by decide +kernel
theorem in_Finding : ∀ w ∈ u_ws R_Finding F_Finding 4, w ∈ gt := in_ps [77, 79, 81, 83] (by decide +kernel) (by decide +kernel)
abbrev R_Session : String := "JobBoard$Session"
def F_Session : u_T := fun k => match k with
  | 0 => ("JobBoard$Session", "id", "I", true)
  | 1 => ("JobBoard$Session", "draft", "LJobBoard$Fields;", true)
  | 2 => ("JobBoard$Session", "patterns", "[LJobBoard$Pattern;", true)
  | 3 => ("JobBoard$Session", "finding", "LJobBoard$Finding;", true)
  | 4 => ("JobBoard$Session", "deals", "I", false)
  | 5 => ("JobBoard$Session", "state", "I", false)
  | 6 => ("JobBoard$Session", "joined", "I", false)
  | _ => ("JobBoard$Session", "takes", "Z", false)
def t_Session : Nat → FieldType := fun k => match k with
  | 0 => .int
  | 1 => .object "JobBoard$Fields"
  | 2 => .array (.object "JobBoard$Pattern")
  | 3 => .object "JobBoard$Finding"
  | 4 => .int
  | 5 => .int
  | 6 => .int
  | _ => .boolean
theorem n_Session : ∀ a, a < 8 → ∀ b, b < 8 → a ≠ b → (F_Session a).2.1 ≠ (F_Session b).2.1 := by decide +kernel
theorem t_Session_ok : ∀ k, k < 8 → parseFieldDescriptor (F_Session k).2.2.1 = some (t_Session k) := by decide +kernel
theorem in_Session : ∀ w ∈ u_ws R_Session F_Session 8, w ∈ gt := in_ps [121, 123, 125, 127, 129, 131, 133, 135] (by decide +kernel) (by decide +kernel)
abbrev R_Order : String := "JobBoard$Order"
def F_Order : u_T := fun k => match k with
  | 0 => ("JobBoard$Order", "pattern", "LJobBoard$Pattern;", true)
  | 1 => ("JobBoard$Order", "reports", "[I", true)
  | 2 => ("JobBoard$Order", "count", "I", false)
  | _ => ("JobBoard$Order", "over", "Z", false)
def t_Order : Nat → FieldType := fun k => match k with
  | 0 => .object "JobBoard$Pattern"
  | 1 => .array .int
  | 2 => .int
  | _ => .boolean
theorem n_Order : ∀ a, a < 4 → ∀ b, b < 4 → a ≠ b → (F_Order a).2.1 ≠ (F_Order b).2.1 := by decide +kernel
theorem t_Order_ok : ∀ k, k < 4 → parseFieldDescriptor (F_Order k).2.2.1 = some (t_Order k) := by decide +kernel
theorem in_Order : ∀ w ∈ u_ws R_Order F_Order 4, w ∈ gt := in_ps [228, 230, 232, 234] (by decide +kernel) (by decide +kernel)
abbrev R_Line : String := "JobBoard$Line"
def F_Line : u_T := fun k => match k with
  | 0 => ("JobBoard$Line", "members", "[I", true)
  | _ => ("JobBoard$Line", "count", "I", false)
def t_Line : Nat → FieldType := fun k => match k with
  | 0 => .array .int
  | _ => .int
theorem n_Line : ∀ a, a < 2 → ∀ b, b < 2 → a ≠ b → (F_Line a).2.1 ≠ (F_Line b).2.1 := by decide +kernel
theorem t_Line_ok : ∀ k, k < 2 → parseFieldDescriptor (F_Line k).2.2.1 = some (t_Line k) := by decide +kernel
theorem in_Line : ∀ w ∈ u_ws R_Line F_Line 2, w ∈ gt := in_ps [209, 211] (by decide +kernel) (by decide +kernel)
abbrev R_M : String := "JobBoardModel"
def F_M : u_T := fun k => match k with
  | 0 => ("JobBoardModel", "code", "I", false)
  | 1 => ("JobBoardModel", "tuples", "I", false)
  | 2 => ("JobBoardModel", "latest", "I", false)
  | 3 => ("JobBoardModel", "now", "I", false)
  | 4 => ("JobBoardModel", "number", "[I", true)
  | 5 => ("JobBoardModel", "fields", "[I", true)
  | 6 => ("JobBoardModel", "end", "[I", true)
  | 7 => ("JobBoardModel", "putBy", "[I", true)
  | 8 => ("JobBoardModel", "putIn", "[I", true)
  | 9 => ("JobBoardModel", "takenBy", "[I", true)
  | 10 => ("JobBoardModel", "takenIn", "[I", true)
  | 11 => ("JobBoardModel", "kind", "[I", true)
  | 12 => ("JobBoardModel", "value", "[J", true)
  | 13 => ("JobBoardModel", "sessions", "I", true)
  | 14 => ("JobBoardModel", "deals", "[I", true)
  | 15 => ("JobBoardModel", "drafted", "[I", true)
  | 16 => ("JobBoardModel", "draftKind", "[I", true)
  | 17 => ("JobBoardModel", "draftValue", "[J", true)
  | 18 => ("JobBoardModel", "forms", "[I", true)
  | 19 => ("JobBoardModel", "formCode", "[I", true)
  | 20 => ("JobBoardModel", "formA", "[J", true)
  | 21 => ("JobBoardModel", "formB", "[J", true)
  | 22 => ("JobBoardModel", "waiting", "I", false)
  | 23 => ("JobBoardModel", "line", "[I", true)
  | 24 => ("JobBoardModel", "joinedBy", "[I", true)
  | 25 => ("JobBoardModel", "how", "[I", true)
  | 26 => ("JobBoardModel", "last", "[I", true)
  | 27 => ("JobBoardModel", "foundNumber", "[I", true)
  | 28 => ("JobBoardModel", "foundKind", "[I", true)
  | 29 => ("JobBoardModel", "foundValue", "[J", true)
  | 30 => ("JobBoardModel", "orders", "I", false)
  | 31 => ("JobBoardModel", "reports", "[I", true)
  | 32 => ("JobBoardModel", "report", "[I", true)
  | 33 => ("JobBoardModel", "over", "[Z", true)
  | 34 => ("JobBoardModel", "boundKind", "[I", true)
  | 35 => ("JobBoardModel", "boundValue", "[J", true)
  | _ => ("JobBoardModel", "at", "[I", true)
def t_M : Nat → FieldType := fun k => match k with
  | 0 => .int
  | 1 => .int
  | 2 => .int
  | 3 => .int
  | 4 => .array .int
  | 5 => .array .int
  | 6 => .array .int
  | 7 => .array .int
  | 8 => .array .int
  | 9 => .array .int
  | 10 => .array .int
  | 11 => .array .int
  | 12 => .array .long
  | 13 => .int
  | 14 => .array .int
  | 15 => .array .int
  | 16 => .array .int
  | 17 => .array .long
  | 18 => .array .int
  | 19 => .array .int
  | 20 => .array .long
  | 21 => .array .long
  | 22 => .int
  | 23 => .array .int
  | 24 => .array .int
  | 25 => .array .int
  | 26 => .array .int
  | 27 => .array .int
  | 28 => .array .int
  | 29 => .array .long
  | 30 => .int
  | 31 => .array .int
  | 32 => .array .int
  | 33 => .array .boolean
  | 34 => .array .int
  | 35 => .array .long
  | _ => .array .int
theorem n_M : ∀ a, a < 37 → ∀ b, b < 37 → a ≠ b → (F_M a).2.1 ≠ (F_M b).2.1 := by decide +kernel
theorem t_M_ok : ∀ k, k < 37 → parseFieldDescriptor (F_M k).2.2.1 = some (t_M k) := by decide +kernel
theorem in_M : ∀ w ∈ u_ws R_M F_M 37, w ∈ gt := in_ps [821, 823, 825, 827, 829, 831, 833, 835, 837, 839, 841, 843, 845, 847, 849, 851, 853, 855, 857, 859, 861, 863, 865, 867, 869, 871, 873, 875, 877, 879, 881, 883, 885, 887, 889, 891, 893] (by decide +kernel) (by decide +kernel)
abbrev vcl : List vw_C := [(R_JB, F_JB, 7), (R_Board, F_Board, 3), (R_Tuple, F_Tuple, 8), (R_Fields, F_Fields, 3), (R_Pattern, F_Pattern, 4), (R_Finding, F_Finding, 4), (R_Session, F_Session, 8), (R_Order, F_Order, 4), (R_Line, F_Line, 2), (R_M, F_M, 37)]
theorem vc_ok : ∀ (ci : Nat) (q : vw_C), vcl[ci]? = some q → (∀ w ∈ u_ws q.1 q.2.1 q.2.2, w ∈ gt) ∧ ∃ ty : Nat → FieldType, (∀ k, k < q.2.2 → parseFieldDescriptor (q.2.1 k).2.2.1 = some (ty k)) ∧ ∀ a, a < q.2.2 → ∀ b, b < q.2.2 → a ≠ b → (q.2.1 a).2.1 ≠ (q.2.1 b).2.1 := by
  intro ci q h
  match ci, h with
  | 0, h => cases h; exact ⟨in_JB, t_JB, t_JB_ok, n_JB⟩
  | 1, h => cases h; exact ⟨in_Board, t_Board, t_Board_ok, n_Board⟩
  | 2, h => cases h; exact ⟨in_Tuple, t_Tuple, t_Tuple_ok, n_Tuple⟩
  | 3, h => cases h; exact ⟨in_Fields, t_Fields, t_Fields_ok, n_Fields⟩
  | 4, h => cases h; exact ⟨in_Pattern, t_Pattern, t_Pattern_ok, n_Pattern⟩
  | 5, h => cases h; exact ⟨in_Finding, t_Finding, t_Finding_ok, n_Finding⟩
  | 6, h => cases h; exact ⟨in_Session, t_Session, t_Session_ok, n_Session⟩
  | 7, h => cases h; exact ⟨in_Order, t_Order, t_Order_ok, n_Order⟩
  | 8, h => cases h; exact ⟨in_Line, t_Line, t_Line_ok, n_Line⟩
  | 9, h => cases h; exact ⟨in_M, t_M, t_M_ok, n_M⟩
  | _ + 10, h => cases h
end
section
/-! Tables of kinds: what stands in which field. Ours, written by ops.py -/
def q_kot : List (Option (Nat × List (Nat × Nat × Nat))) := [some (0, [(2, 1, 0), (2, 2, 0), (2, 21, 0), (2, 20, 0), (0, 0, 0), (0, 0, 0), (2, 12, 0)]),
  none,
  some (1, [(2, 3, 0), (0, 0, 0), (0, 0, 0)]),
  none,
  some (2, [(1, 0, 0), (0, 0, 0), (0, 0, 0), (0, 0, 0), (0, 0, 0), (0, 0, 0), (0, 0, 0), (2, 5, 1)]),
  some (3, [(0, 0, 0), (2, 6, 1), (2, 7, 1)]),
  none,
  none,
  some (4, [(0, 0, 0), (2, 9, 1), (2, 10, 1), (2, 11, 1)]),
  none,
  none,
  none,
  some (5, [(2, 13, 1), (0, 0, 0), (2, 14, 1), (2, 15, 1)]),
  none,
  none,
  none,
  some (6, [(0, 0, 0), (2, 5, 2), (2, 17, 1), (2, 12, 3), (0, 0, 0), (0, 0, 0), (0, 0, 0), (1, 0, 0)]),
  none,
  some (7, [(2, 8, 1), (2, 19, 1), (0, 0, 0), (1, 0, 0)]),
  none,
  none,
  some (8, [(2, 22, 0), (0, 0, 0)]),
  none,
  none,
  some (9, [(0, 0, 0), (0, 0, 0), (0, 0, 0), (0, 0, 0), (2, 25, 0), (2, 26, 0), (2, 27, 0), (2, 28, 0), (2, 29, 0), (2, 30, 0), (2, 31, 0), (2, 32, 0), (2, 33, 0), (0, 0, 0), (2, 34, 0), (2, 35, 0), (2, 36, 0), (2, 37, 0), (2, 38, 0), (2, 39, 0), (2, 40, 0), (2, 41, 0), (0, 0, 0), (2, 42, 0), (2, 43, 0), (2, 44, 0), (2, 45, 0), (2, 46, 0), (2, 47, 0), (2, 48, 0), (0, 0, 0), (2, 49, 0), (2, 50, 0), (2, 51, 0), (2, 52, 0), (2, 53, 0), (2, 54, 0)]),
  none,
  none,
  none,
  none,
  none,
  none,
  none,
  none,
  none,
  none,
  none,
  none,
  none,
  none,
  none,
  none,
  none,
  none,
  none,
  none,
  none,
  none,
  none,
  none,
  none,
  none,
  none,
  none,
  none,
  none]
def q_kat : List (Option (Nat × Nat × Nat × Nat)) := [none, some (3, 16, 0, 1), none, some (4, 4, 20, 0), none, none, some (0, 0, 4, 0), some (1, 0, 4, 0), none, some (0, 0, 4, 0), some (1, 0, 4, 0), some (1, 0, 4, 0), none, some (0, 0, 3, 0), some (0, 0, 4, 0), some (1, 0, 4, 0), none, some (5, 8, 3, 0), none, some (0, 0, 5, 0), some (6, 18, 6, 0), none, some (0, 0, 4, 0), some (1, 0, 1, 0), none, some (0, 0, 20, 0), some (0, 0, 20, 0), some (0, 0, 20, 0), some (0, 0, 20, 0), some (0, 0, 20, 0), some (0, 0, 20, 0), some (0, 0, 20, 0), some (0, 0, 80, 0), some (1, 0, 80, 0), some (0, 0, 4, 0), some (0, 0, 4, 0), some (0, 0, 16, 0), some (1, 0, 16, 0), some (0, 0, 18, 0), some (0, 0, 72, 0), some (1, 0, 72, 0), some (1, 0, 72, 0), some (0, 0, 4, 0), some (0, 0, 4, 0), some (0, 0, 4, 0), some (0, 0, 4, 0), some (0, 0, 12, 0), some (0, 0, 16, 0), some (1, 0, 16, 0), some (0, 0, 6, 0), some (0, 0, 30, 0), some (2, 0, 6, 0), some (0, 0, 16, 0), some (1, 0, 16, 0), some (0, 0, 3, 0)]
def q_ctt : List (Nat × Nat) := [(1, 0), (1, 0), (1, 0), (1, 0), (20, 0), (20, 1), (20, 1), (20, 1), (6, 2), (6, 2), (6, 2), (6, 2), (1, 1), (1, 1), (1, 1), (1, 1), (0, 1), (0, 1), (6, 0), (6, 0), (1, 0), (1, 0), (1, 0), (1, 0), (1, 0), (1, 0), (1, 0), (1, 0), (1, 0), (1, 0), (1, 0), (1, 0), (1, 0), (1, 0), (1, 0), (1, 0), (1, 0), (1, 0), (1, 0), (1, 0), (1, 0), (1, 0), (1, 0), (1, 0), (1, 0), (1, 0), (1, 0), (1, 0), (1, 0), (1, 0), (1, 0), (1, 0), (1, 0), (1, 0), (1, 0)]
/-! An interpreter over plain numbers: values, the state, one step, a run. Ours. -/
abbrev PV : Type := Int32 ⊕ Int64 ⊕ Option (Nat × Nat)
/-- the locals: what is known of each -/
abbrev PL : Type := Nat → Option PV
/-- int fields by kind, field, index; int rows by kind, index; long rows; the places of rows of references -/
abbrev J : Type := (Nat → Nat → Nat → Int32) × (Nat → Nat → Nat → Int32) × (Nat → Nat → Nat → Int64) × (Nat → Nat → Nat → Nat)
abbrev Op : Type := Nat × Int × Nat × Nat × List Nat
abbrev Res : Type := (Option PV ⊕ Nat) × J
abbrev MRow : Type := MethodName × ByteArray × Nat × Option FieldType
def q_cat (v : PV) : Nat := match v with
  | .inl _ => 1
  | .inr (.inl _) => 2
  | .inr (.inr _) => 1
def q_tv (ad : Nat → Nat → Nat) (v : PV) : Value := match v with
  | .inl x => .int x
  | .inr (.inl y) => .long y
  | .inr (.inr none) => .null
  | .inr (.inr (some q)) => .ref (ad q.1 q.2)
def q_s1 (L : PL) (a : Nat) (v : PV) : PL := fun b => bif Nat.beq b a then some v else bif Nat.beq (b + 1) a then (match L b with
  | some w => bif Nat.beq (q_cat w) 2 then none else some w
  | none => none) else L b
def q_s2 (L : PL) (a : Nat) (v : PV) : PL := fun b => bif Nat.beq b a then some v else bif Nat.beq b (a + 1) then none else bif Nat.beq (b + 1) a then (match L b with
  | some w => bif Nat.beq (q_cat w) 2 then none else some w
  | none => none) else L b
def q_args : Nat → List PV → PL
  | _, [] => fun _ => none
  | i, v :: vs => fun b => bif Nat.beq b i then some v else q_args (bif Nat.beq (q_cat v) 2 then i + 2 else i + 1) vs b
def q_pI : List PV → Option (Int32 × List PV)
  | .inl x :: r => some (x, r)
  | _ => none
def q_pL : List PV → Option (Int64 × List PV)
  | .inr (.inl x) :: r => some (x, r)
  | _ => none
def q_pR : List PV → Option ((Nat × Nat) × List PV)
  | .inr (.inr (some q)) :: r => some (q, r)
  | _ => none
def q_pN : List PV → Option (Option (Nat × Nat) × List PV)
  | .inr (.inr q) :: r => some (q, r)
  | _ => none
def q_p1 : List PV → Option (PV × List PV)
  | .inl x :: r => some (.inl x, r)
  | .inr (.inr x) :: r => some (.inr (.inr x), r)
  | _ => none
def q_pop : Nat → List PV → Option (List PV × List PV)
  | 0, st => some ([], st)
  | _ + 1, [] => none
  | j + 1, v :: r => match q_pop j r with
    | none => none
    | some q => some (q.1 ++ [v], q.2)
def q_sI (σ : J) (k f i : Nat) (v : Int32) : J := (fun x y z => if x = k ∧ y = f ∧ z = i then v else σ.1 x y z, σ.2)
def q_sA (σ : J) (k i : Nat) (g : Nat → Int32) : J := (σ.1, fun x y => if x = k ∧ y = i then g else σ.2.1 x y, σ.2.2)
def q_sL (σ : J) (k i : Nat) (g : Nat → Int64) : J := (σ.1, σ.2.1, fun x y => if x = k ∧ y = i then g else σ.2.2.1 x y, σ.2.2.2)
def q_sP (σ : J) (k i : Nat) (g : Nat → Nat) : J := (σ.1, σ.2.1, σ.2.2.1, fun x y => if x = k ∧ y = i then g else σ.2.2.2 x y)
def q_ko (k : Nat) : Option (Nat × List (Nat × Nat × Nat)) := q_kot.getD k none
def q_ka (k : Nat) : Option (Nat × Nat × Nat × Nat) := q_kat.getD k none
def q_nn (n : Nat) (q : Nat × Nat) : Nat := match q.2 with
  | 0 => q.1
  | 1 => q.1 + n
  | _ => q.1 + 3 * n
def q_ct (n k : Nat) : Nat := q_nn n (q_ctt.getD k (0, 0))
def q_ix (c i : Nat) : Nat := match c with
  | 0 => 0
  | 1 => i
  | 2 => 20 + i
  | _ => i + 1
def q_fv (σ : J) (k i f : Nat) (d : Nat × Nat × Nat) : PV := bif Nat.blt d.1 2 then .inl (σ.1 k f i) else .inr (.inr (some (d.2.1, q_ix d.2.2 i)))
def q_in (i : Int32) (n : Nat) : Bool := decide (¬ (i < 0 ∨ n ≤ i.toNatClampNeg))
def q_ok (n : Nat) (v : PV) : Bool := match v with
  | .inr (.inr (some q)) => Nat.blt q.2 (q_ct n q.1)
  | _ => true
def q_rm (st : List PV) : Bool := Nat.ble ((st.map q_cat).sum) 8
def q_sw (g : Nat → Option Res) (x : Int32) : Nat → List Nat → Nat → Option Res
  | _, [], t => g t
  | v, u :: r, t => if x = Int32.ofNat v then g u else q_sw g x (v + 1) r t
/-- rows that may be copied: from a, place sp, to b, place dp, many -/
def q_cpo (sp dp m : Int32) (n0 n1 : Nat) : Bool := decide (¬ sp < 0) && decide (¬ dp < 0) && decide (¬ m < 0) && Nat.ble (sp.toNatClampNeg + m.toNatClampNeg) n0 && Nat.ble (dp.toNatClampNeg + m.toNatClampNeg) n1
/-- behind a call -/
def q_af (n : Nat) (g : List PV → J → Option Res) (rest : List PV) (z : Res) : Option Res := match z with
  | (.inl none, σ) => g rest σ
  | (.inl (some v), σ) => bif q_ok n v then g (v :: rest) σ else none
  | (.inr e, σ) => some (.inr e, σ)
def q_stp (n : Nat) (g : Nat → PL → List PV → J → Option Res) (cal : Nat → List PV → J → Option Res) (pc : Nat) (o : Op) (L : PL) (st : List PV) (σ : J) : Option Res :=
  match o.1 with
  | 0 => g (pc + 1) L (.inl (Int32.ofInt o.2.1) :: st) σ
  | 1 => g (pc + 2) L (.inl (Int32.ofInt o.2.1) :: st) σ
  | 2 => g (pc + 3) L (.inl (Int32.ofInt o.2.1) :: st) σ
  | 3 => g (pc + 1) L (.inr (.inl (Int64.ofInt o.2.1)) :: st) σ
  | 4 => g (pc + 3) L (.inr (.inl (Int64.ofInt o.2.1)) :: st) σ
  | 6 => (L o.2.2.1).bind fun v => (q_pI (v :: st)).bind fun _ => g (pc + 1) L (v :: st) σ
  | 7 => (L o.2.2.1).bind fun v => (q_pI (v :: st)).bind fun _ => g (pc + 2) L (v :: st) σ
  | 8 => (L o.2.2.1).bind fun v => (q_pL (v :: st)).bind fun _ => g (pc + 1) L (v :: st) σ
  | 9 => (L o.2.2.1).bind fun v => (q_pL (v :: st)).bind fun _ => g (pc + 2) L (v :: st) σ
  | 10 => (L o.2.2.1).bind fun v => (q_pN (v :: st)).bind fun _ => g (pc + 1) L (v :: st) σ
  | 11 => (L o.2.2.1).bind fun v => (q_pN (v :: st)).bind fun _ => g (pc + 2) L (v :: st) σ
  | 12 => (q_pI st).bind fun q => g (pc + 1) (q_s1 L o.2.2.1 (.inl q.1)) q.2 σ
  | 13 => (q_pI st).bind fun q => g (pc + 2) (q_s1 L o.2.2.1 (.inl q.1)) q.2 σ
  | 14 => (q_pL st).bind fun q => g (pc + 1) (q_s2 L o.2.2.1 (.inr (.inl q.1))) q.2 σ
  | 15 => (q_pL st).bind fun q => g (pc + 2) (q_s2 L o.2.2.1 (.inr (.inl q.1))) q.2 σ
  | 16 => (q_pN st).bind fun q => g (pc + 1) (q_s1 L o.2.2.1 (.inr (.inr q.1))) q.2 σ
  | 17 => (q_pN st).bind fun q => g (pc + 2) (q_s1 L o.2.2.1 (.inr (.inr q.1))) q.2 σ
  | 18 => (L o.2.2.1).bind fun v => (q_pI [v]).bind fun q => g (pc + 3) (q_s1 L o.2.2.1 (.inl (q.1 + Int32.ofInt o.2.1))) st σ
  | 19 => (q_pI st).bind fun y => (q_pI y.2).bind fun x => g (pc + 1) L (.inl (x.1 + y.1) :: x.2) σ
  | 20 => (q_pI st).bind fun y => (q_pI y.2).bind fun x => g (pc + 1) L (.inl (x.1 - y.1) :: x.2) σ
  | 21 => (q_pI st).bind fun y => (q_pI y.2).bind fun x => g (pc + 1) L (.inl (x.1 * y.1) :: x.2) σ
  | 22 => (q_pI st).bind fun y => (q_pI y.2).bind fun x => if y.1 = 0 then none else g (pc + 1) L (.inl (x.1 - x.1 / y.1 * y.1) :: x.2) σ
  | 23 => (q_pI st).bind fun y => (q_pI y.2).bind fun x => g (pc + 1) L (.inl (x.1 &&& y.1) :: x.2) σ
  | 24 => (q_pI st).bind fun y => (q_pI y.2).bind fun x => g (pc + 1) L (.inl (x.1 ||| y.1) :: x.2) σ
  | 25 => (q_pI st).bind fun y => (q_pI y.2).bind fun x => g (pc + 1) L (.inl (x.1 <<< (y.1 &&& 31)) :: x.2) σ
  | 26 => (q_pI st).bind fun y => (q_pI y.2).bind fun x => g (pc + 1) L (.inl (x.1 >>> (y.1 &&& 31)) :: x.2) σ
  | 27 => (q_pL st).bind fun y => (q_pL y.2).bind fun x => g (pc + 1) L (.inr (.inl (x.1 + y.1)) :: x.2) σ
  | 28 => (q_pL st).bind fun y => (q_pL y.2).bind fun x => g (pc + 1) L (.inr (.inl (x.1 &&& y.1)) :: x.2) σ
  | 29 => (q_pL st).bind fun y => (q_pL y.2).bind fun x => g (pc + 1) L (.inr (.inl (x.1 ||| y.1)) :: x.2) σ
  | 30 => (q_pI st).bind fun y => (q_pL y.2).bind fun x => g (pc + 1) L (.inr (.inl (x.1 <<< (y.1.toInt64 &&& 63))) :: x.2) σ
  | 31 => (q_pI st).bind fun y => (q_pL y.2).bind fun x => g (pc + 1) L (.inr (.inl (x.1 >>> (y.1.toInt64 &&& 63))) :: x.2) σ
  | 32 => (q_pI st).bind fun y => (q_pL y.2).bind fun x => g (pc + 1) L (.inr (.inl (x.1.toUInt64 >>> (y.1.toInt64.toUInt64 &&& Int64.toUInt64 63)).toInt64) :: x.2) σ
  | 33 => (q_pI st).bind fun x => g (pc + 1) L (.inr (.inl x.1.toInt64) :: x.2) σ
  | 34 => (q_pL st).bind fun x => g (pc + 1) L (.inl x.1.toInt32 :: x.2) σ
  | 35 => (q_pL st).bind fun y => (q_pL y.2).bind fun x => g (pc + 1) L (.inl (lg_cmp x.1 y.1) :: x.2) σ
  | 36 => (q_p1 st).bind fun x => g (pc + 1) L (x.1 :: x.1 :: x.2) σ
  | 37 => (q_p1 st).bind fun x => g (pc + 1) L x.2 σ
  | 38 => (q_p1 st).bind fun x => (q_p1 x.2).bind fun y => g (pc + 1) L (x.1 :: y.1 :: x.1 :: y.1 :: y.2) σ
  | 39 => g (pc + 1) L (.inr (.inr none) :: st) σ
  | 40 => (q_pN st).bind fun x => match x.1 with
    | none => g o.2.2.1 L x.2 σ
    | some _ => g (pc + 3) L x.2 σ
  | 41 => (q_pN st).bind fun x => match x.1 with
    | none => g (pc + 3) L x.2 σ
    | some _ => g o.2.2.1 L x.2 σ
  | 42 => g o.2.2.1 L st σ
  | 43 => (q_pI st).bind fun x => if x.1 = 0 then g o.2.2.1 L x.2 σ else g (pc + 3) L x.2 σ
  | 44 => (q_pI st).bind fun x => if x.1 = 0 then g (pc + 3) L x.2 σ else g o.2.2.1 L x.2 σ
  | 45 => (q_pI st).bind fun x => if x.1 < 0 then g o.2.2.1 L x.2 σ else g (pc + 3) L x.2 σ
  | 46 => (q_pI st).bind fun x => if 0 ≤ x.1 then g o.2.2.1 L x.2 σ else g (pc + 3) L x.2 σ
  | 47 => (q_pI st).bind fun x => if 0 < x.1 then g o.2.2.1 L x.2 σ else g (pc + 3) L x.2 σ
  | 48 => (q_pI st).bind fun x => if x.1 ≤ 0 then g o.2.2.1 L x.2 σ else g (pc + 3) L x.2 σ
  | 49 => (q_pI st).bind fun y => (q_pI y.2).bind fun x => if x.1 = y.1 then g o.2.2.1 L x.2 σ else g (pc + 3) L x.2 σ
  | 50 => (q_pI st).bind fun y => (q_pI y.2).bind fun x => if x.1 = y.1 then g (pc + 3) L x.2 σ else g o.2.2.1 L x.2 σ
  | 51 => (q_pI st).bind fun y => (q_pI y.2).bind fun x => if x.1 < y.1 then g o.2.2.1 L x.2 σ else g (pc + 3) L x.2 σ
  | 52 => (q_pI st).bind fun y => (q_pI y.2).bind fun x => if y.1 ≤ x.1 then g o.2.2.1 L x.2 σ else g (pc + 3) L x.2 σ
  | 53 => (q_pI st).bind fun y => (q_pI y.2).bind fun x => if y.1 < x.1 then g o.2.2.1 L x.2 σ else g (pc + 3) L x.2 σ
  | 54 => (q_pI st).bind fun y => (q_pI y.2).bind fun x => if x.1 ≤ y.1 then g o.2.2.1 L x.2 σ else g (pc + 3) L x.2 σ
  | 55 => (q_pI st).bind fun x => q_sw (fun t => g t L x.2 σ) x.1 o.2.2.1 o.2.2.2.2.tail o.2.2.2.1
  | 56 => (q_pR st).bind fun q => (q_ko q.1.1).bind fun w => bif Nat.beq w.1 (o.2.2.2.2.getD 0 0) then (w.2[o.2.2.2.1]?).bind fun d => g (pc + 3) L (q_fv σ q.1.1 q.1.2 o.2.2.2.1 d :: q.2) σ else none
  | 57 => (q_pI st).bind fun v => (q_pR v.2).bind fun q => (q_ko q.1.1).bind fun w => bif Nat.beq w.1 (o.2.2.2.2.getD 0 0) then (w.2[o.2.2.2.1]?).bind fun d => bif Nat.beq d.1 0 then g (pc + 3) L q.2 (q_sI σ q.1.1 o.2.2.2.1 q.1.2 v.1) else bif Nat.beq d.1 1 then if v.1 &&& 1 = v.1 then g (pc + 3) L q.2 (q_sI σ q.1.1 o.2.2.2.1 q.1.2 v.1) else none else none else none
  | 58 => (q_pI st).bind fun j => (q_pR j.2).bind fun q => (q_ka q.1.1).bind fun w => bif Nat.beq w.1 0 then bif q_in j.1 (q_nn n w.2.2) then g (pc + 1) L (.inl (σ.2.1 q.1.1 q.1.2 j.1.toNatClampNeg) :: q.2) σ else none else none
  | 59 => (q_pI st).bind fun j => (q_pR j.2).bind fun q => (q_ka q.1.1).bind fun w => bif Nat.beq w.1 1 then bif q_in j.1 (q_nn n w.2.2) then g (pc + 1) L (.inr (.inl (σ.2.2.1 q.1.1 q.1.2 j.1.toNatClampNeg)) :: q.2) σ else none else none
  | 60 => (q_pI st).bind fun j => (q_pR j.2).bind fun q => (q_ka q.1.1).bind fun w => bif Nat.blt 2 w.1 then bif q_in j.1 (q_nn n w.2.2) then bif Nat.blt (σ.2.2.2 q.1.1 q.1.2 j.1.toNatClampNeg) (q_ct n w.2.1) then g (pc + 1) L (.inr (.inr (some (w.2.1, σ.2.2.2 q.1.1 q.1.2 j.1.toNatClampNeg))) :: q.2) σ else none else none else none
  | 61 => (q_pI st).bind fun j => (q_pR j.2).bind fun q => (q_ka q.1.1).bind fun w => bif Nat.beq w.1 2 then bif q_in j.1 (q_nn n w.2.2) then g (pc + 1) L (.inl (σ.2.1 q.1.1 q.1.2 j.1.toNatClampNeg) :: q.2) σ else none else none
  | 62 => (q_pI st).bind fun v => (q_pI v.2).bind fun j => (q_pR j.2).bind fun q => (q_ka q.1.1).bind fun w => bif Nat.beq w.1 0 then bif q_in j.1 (q_nn n w.2.2) then g (pc + 1) L q.2 (q_sA σ q.1.1 q.1.2 (upd (σ.2.1 q.1.1 q.1.2) j.1.toNatClampNeg v.1)) else none else none
  | 63 => (q_pL st).bind fun v => (q_pI v.2).bind fun j => (q_pR j.2).bind fun q => (q_ka q.1.1).bind fun w => bif Nat.beq w.1 1 then bif q_in j.1 (q_nn n w.2.2) then g (pc + 1) L q.2 (q_sL σ q.1.1 q.1.2 (vp_updL (σ.2.2.1 q.1.1 q.1.2) j.1.toNatClampNeg v.1)) else none else none
  | 64 => (q_pR st).bind fun v => (q_pI v.2).bind fun j => (q_pR j.2).bind fun q => (q_ka q.1.1).bind fun w => bif Nat.blt 2 w.1 && Nat.beq w.2.1 v.1.1 then bif q_in j.1 (q_nn n w.2.2) then g (pc + 1) L q.2 (q_sP σ q.1.1 q.1.2 (va_up (σ.2.2.2 q.1.1 q.1.2) j.1.toNatClampNeg v.1.2)) else none else none
  | 65 => (q_pI st).bind fun v => (q_pI v.2).bind fun j => (q_pR j.2).bind fun q => (q_ka q.1.1).bind fun w => bif Nat.beq w.1 2 then bif q_in j.1 (q_nn n w.2.2) then if v.1 &&& 1 = v.1 then g (pc + 1) L q.2 (q_sA σ q.1.1 q.1.2 (upd (σ.2.1 q.1.1 q.1.2) j.1.toNatClampNeg v.1)) else none else none else none
  | 66 => (q_pR st).bind fun q => (q_ka q.1.1).bind fun w => g (pc + 1) L (.inl (Int32.ofNat (q_nn n w.2.2)) :: q.2) σ
  | 67 => (q_pop (o.2.2.2.2.getD 0 0) st).bind fun a => (q_pR a.2).bind fun q => (q_ko q.1.1).bind fun w => bif Nat.beq w.1 (o.2.2.2.2.getD 1 0) && (q_rm q.2 && Nat.beq ((a.1.map q_cat).sum) (o.2.2.2.2.getD 2 0)) then (cal o.2.2.2.1 (.inr (.inr (some q.1)) :: a.1) σ).bind (q_af n (fun st' σ' => g (pc + 3) L st' σ') q.2) else none
  | 68 => (q_pop (o.2.2.2.2.getD 0 0) st).bind fun a => bif q_rm a.2 && Nat.beq ((a.1.map q_cat).sum) (o.2.2.2.2.getD 2 0) then (cal o.2.2.2.1 a.1 σ).bind (q_af n (fun st' σ' => g (pc + 3) L st' σ') a.2) else none
  | 69 => (q_pI st).bind fun m => (q_pI m.2).bind fun dp => (q_pR dp.2).bind fun b => (q_pI b.2).bind fun sp => (q_pR sp.2).bind fun a => (q_ka a.1.1).bind fun wa => (q_ka b.1.1).bind fun wb => bif q_cpo sp.1 dp.1 m.1 (q_nn n wa.2.2) (q_nn n wb.2.2) && q_rm a.2 then
      bif Nat.beq wa.1 0 && Nat.beq wb.1 0 then g (pc + 3) L a.2 (q_sA σ b.1.1 b.1.2 (va_cpy (σ.2.1 a.1.1 a.1.2) (σ.2.1 b.1.1 b.1.2) sp.1.toNatClampNeg dp.1.toNatClampNeg m.1.toNatClampNeg))
      else bif Nat.beq wa.1 1 && Nat.beq wb.1 1 then g (pc + 3) L a.2 (q_sL σ b.1.1 b.1.2 (va_cpy (σ.2.2.1 a.1.1 a.1.2) (σ.2.2.1 b.1.1 b.1.2) sp.1.toNatClampNeg dp.1.toNatClampNeg m.1.toNatClampNeg)) else none else none
  | 70 => (q_pL st).bind fun y => (q_pL y.2).bind fun x => bif q_rm x.2 then g (pc + 3) L (.inr (.inl (if y.1 < x.1 then x.1 else y.1)) :: x.2) σ else none
  | 71 => (q_pL st).bind fun y => (q_pL y.2).bind fun x => bif q_rm x.2 then g (pc + 3) L (.inr (.inl (if y.1 < x.1 then y.1 else x.1)) :: x.2) σ else none
  | 72 => (q_pI st).bind fun x => match x.2 with
    | [] => some (.inl (some (.inl x.1)), σ)
    | _ :: _ => none
  | 73 => (q_pI st).bind fun x => match x.2 with
    | [] => if x.1 &&& 1 = x.1 then some (.inl (some (.inl x.1)), σ) else none
    | _ :: _ => none
  | 74 => (q_pL st).bind fun x => match x.2 with
    | [] => some (.inl (some (.inr (.inl x.1))), σ)
    | _ :: _ => none
  | 75 => (q_pN st).bind fun x => match x.2 with
    | [] => some (.inl (some (.inr (.inr x.1))), σ)
    | _ :: _ => none
  | 76 => match st with
    | [] => some (.inl none, σ)
    | _ :: _ => none
  | 77 => match st with
    | [] => some (.inr o.2.2.1, σ)
    | _ :: _ => none
  | _ => none
def q_run (pr : Nat → Nat → Option Op) (n : Nat) : Nat → Nat → Nat → Nat → PL → List PV → J → Option Res
  | _, 0, _, _, _, _, _ => none
  | d, f + 1, k, pc, L, st, σ => match pr k pc with
    | none => none
    | some o => q_stp n (fun pc' L' st' σ' => q_run pr n d f k pc' L' st' σ') (fun k' vs σ' => match d with
      | 0 => none
      | d' + 1 => q_run pr n d' f k' 0 (q_args 0 vs) [] σ') pc o L st σ
end
section
/-! The interpreter's state in the machine's heap: cells by names, frames, what an instruction must be. Ours. -/
theorem gt_good : ∀ w ∈ gt, goodWord w = true := fun _ h => (List.mem_filter.mp h).2
theorem gi_1 {cw : Cond} (hc : cw ∈ gt) : GoodIn gt (cw :: gt) := fun w h => by
  have hw : w ∈ gt := by
    rcases List.mem_cons.mp h with rfl | h
    · exact hc
    · exact h
  exact ⟨hw, good_of_word (gt_good w hw)⟩
theorem gi_V {own C : String} {idx : Nat} {y : MethodName} {cw : Cond} (h1 : Cond.methodLink own idx y ∈ gt) (h2 : Cond.instanceMethod y ∈ gt) (h3 : Cond.selects C y y ∈ gt) (h4 : Cond.initialized C ∈ gt) (hc : cw ∈ gt) : GoodIn gt (wsV own idx C y (cw :: gt)) := fun w h => by
  have hw : w ∈ gt := by
    unfold wsV at h
    rcases List.mem_append.mp h with h | h
    · simp only [List.mem_cons, List.not_mem_nil, or_false] at h
      rcases h with rfl | rfl | rfl | rfl
      · exact h1
      · exact h2
      · exact h3
      · exact h4
    · exact (gi_1 hc w h).1
  exact ⟨hw, good_of_word (gt_good w hw)⟩
theorem gi_S {own : String} {idx : Nat} {y : MethodName} {cw : Cond} (h1 : Cond.methodLink own idx y ∈ gt) (h2 : Cond.static y ∈ gt) (h4 : Cond.initialized own ∈ gt) (hc : cw ∈ gt) : GoodIn gt (wsS own idx y (cw :: gt)) := fun w h => by
  have hw : w ∈ gt := by
    unfold wsS at h
    rcases List.mem_append.mp h with h | h
    · simp only [List.mem_cons, List.not_mem_nil, or_false] at h
      rcases h with rfl | rfl | rfl
      · exact h1
      · exact h2
      · exact h4
    · exact (gi_1 hc w h).1
  exact ⟨hw, good_of_word (gt_good w hw)⟩
-- names and their cells
def hup (cn : Nat → Nat → va_E) (k i : Nat) (e : va_E) : Nat → Nat → va_E := fun k' i' => if k' = k ∧ i' = i then e else cn k' i'
def wl (ids : List (Nat × Nat)) (ad : Nat → Nat → Nat) (cn : Nat → Nat → va_E) : va_W := ids.map (fun x => (ad x.1 x.2, cn x.1 x.2))
theorem wl_at {ids : List (Nat × Nat)} {ad : Nat → Nat → Nat} {cn : Nat → Nat → va_E} {k i : Nat} (h : (k, i) ∈ ids) : ∃ q : Nat, ids[q]? = some (k, i) ∧ (wl ids ad cn)[q]? = some (ad k i, cn k i) := by
  obtain ⟨q, hq⟩ := List.getElem?_of_mem h
  exact ⟨q, hq, by simp only [wl, List.getElem?_map, hq]; rfl⟩
theorem wl_set {A : Nat → Prop} {ids : List (Nat × Nat)} {ad : Nat → Nat → Nat} {cn : Nat → Nat → va_E} {k i q : Nat} {e : va_E} (hI : va_D A (wl ids ad cn)) (hq : ids[q]? = some (k, i)) : (wl ids ad cn).set q (ad k i, e) = wl ids ad (hup cn k i e) := by
  have hql : (wl ids ad cn)[q]? = some (ad k i, cn k i) := by simp only [wl, List.getElem?_map, hq]; rfl
  have hlen : q < (wl ids ad cn).length := (List.getElem?_eq_some_iff.mp hql).1
  apply List.ext_getElem?
  intro j
  by_cases hj : j = q
  · subst hj
    rw [List.getElem?_set_self hlen]
    simp [wl, List.getElem?_map, hq, hup]
  · rw [List.getElem?_set_ne (Ne.symm hj)]
    simp only [wl, List.getElem?_map]
    cases hx : ids[j]? with
    | none => rfl
    | some x =>
      have hne : ¬ (x.1 = k ∧ x.2 = i) := by
        rintro ⟨h1, h2⟩
        apply hj
        refine hI.1 j q (ad x.1 x.2, cn x.1 x.2) (ad k i, cn k i) (by simp only [wl, List.getElem?_map, hx]; rfl) hql ?_
        show ad x.1 x.2 = ad k i
        rw [h1, h2]
      simp [hup, hne]
def idj (n : Nat) : List (Nat × Nat) := (List.range q_ctt.length).flatMap fun k => (List.range (q_ct n k)).map fun i => (k, i)
theorem idj_in {n k i : Nat} (hi : i < q_ct n k) : (k, i) ∈ idj n := by
  refine List.mem_flatMap.mpr ⟨k, List.mem_range.mpr ?_, List.mem_map.mpr ⟨i, List.mem_range.mpr hi, rfl⟩⟩
  apply Nat.lt_of_not_le
  intro h
  have e : q_ct n k = 0 := by
    unfold q_ct
    rw [List.getD_eq_getElem?_getD, List.getElem?_eq_none h]
    rfl
  omega
theorem idj_lt {n k i : Nat} (h : (k, i) ∈ idj n) : i < q_ct n k := by
  obtain ⟨k', -, h⟩ := List.mem_flatMap.mp h
  obtain ⟨i', hi, he⟩ := List.mem_map.mp h
  cases he
  exact List.mem_range.mp hi
theorem q_ok_in {n k i : Nat} (h : q_ok n (.inr (.inr (some (k, i)))) = true) : (k, i) ∈ idj n := idj_in (Nat.blt_eq.mp h)
-- what the cells hold
def q_fs (ad : Nat → Nat → Nat) (σ : J) (k i : Nat) : Nat → List (Nat × Nat × Nat) → List Value
  | _, [] => []
  | f, d :: r => q_tv ad (q_fv σ k i f d) :: q_fs ad σ k i (f + 1) r
theorem q_fs_len (ad : Nat → Nat → Nat) (σ : J) (k i : Nat) (l : List (Nat × Nat × Nat)) : ∀ f, (q_fs ad σ k i f l).length = l.length := by
  induction l with
  | nil => intro f; rfl
  | cons d r ih => intro f; simp [q_fs, ih]
theorem q_fs_at (ad : Nat → Nat → Nat) (σ : J) (k i : Nat) (l : List (Nat × Nat × Nat)) : ∀ (f j : Nat), (q_fs ad σ k i f l)[j]? = (l[j]?).map (fun d => q_tv ad (q_fv σ k i (f + j) d)) := by
  induction l with
  | nil => intro f j; simp [q_fs]
  | cons d r ih =>
    intro f j
    cases j with
    | zero => simp [q_fs]
    | succ j =>
      simp only [q_fs, List.getElem?_cons_succ, ih]
      rw [show f + 1 + j = f + (j + 1) by omega]
def q_ar (ad : Nat → Nat → Nat) (σ : J) (t ek k i : Nat) : (Nat → Int32) ⊕ (Nat → Int64) ⊕ (Nat → UInt32) ⊕ (Nat → UInt64) ⊕ (Nat → Option Nat) := match t with
  | 0 => .inl (σ.2.1 k i)
  | 1 => .inr (.inl (σ.2.2.1 k i))
  | 2 => .inl (σ.2.1 k i)
  | _ => .inr (.inr (.inr (.inr (fun j => some (ad ek (σ.2.2.2 k i j))))))
def cj (cy : Nat → ClassId) (ad : Nat → Nat → Nat) (n : Nat) (σ : J) (k i : Nat) : va_E := match q_ko k with
  | some w => .inr (w.1, q_fs ad σ k i 0 w.2)
  | none => match q_ka k with
    | some w => .inl (cy w.1, q_nn n w.2.2, q_ar ad σ w.1 w.2.1 k i)
    | none => .inl (cy 0, 0, .inl (fun _ => 0))
theorem cj_o {cy : Nat → ClassId} {ad : Nat → Nat → Nat} {n : Nat} {σ : J} {k i : Nat} {w : Nat × List (Nat × Nat × Nat)} (h : q_ko k = some w) : cj cy ad n σ k i = .inr (w.1, q_fs ad σ k i 0 w.2) := by
  unfold cj
  rw [h]
theorem q_apart : ∀ k, k < q_kot.length → (q_kot.getD k none).isSome = true → q_kat.getD k none = none := by decide
theorem q_ko_lt {k : Nat} {w : Nat × List (Nat × Nat × Nat)} (h : q_ko k = some w) : k < q_kot.length := by
  apply Nat.lt_of_not_le
  intro hk
  unfold q_ko at h
  rw [List.getD_eq_getElem?_getD, List.getElem?_eq_none hk] at h
  cases h
theorem q_ka_ko {k : Nat} {w : Nat × Nat × Nat × Nat} (h : q_ka k = some w) : q_ko k = none := by
  cases hk : q_ko k with
  | none => rfl
  | some v =>
    have h1 := q_apart k (q_ko_lt hk) (by show (q_ko k).isSome = true; rw [hk]; rfl)
    rw [show q_ka k = q_kat.getD k none from rfl, h1] at h
    cases h
theorem cj_a {cy : Nat → ClassId} {ad : Nat → Nat → Nat} {n : Nat} {σ : J} {k i : Nat} {w : Nat × Nat × Nat × Nat} (h : q_ka k = some w) : cj cy ad n σ k i = .inl (cy w.1, q_nn n w.2.2, q_ar ad σ w.1 w.2.1 k i) := by
  unfold cj
  rw [q_ka_ko h, h]
abbrev WJ (D : va_G) (cy : Nat → ClassId) (ad : Nat → Nat → Nat) (n : Nat) (σ : J) (H : Heap) : Prop := va_P D vcl (wl (idj n) ad (cj cy ad n σ)) H
theorem q_fs_eq {ad : Nat → Nat → Nat} {σ τ : J} {k i : Nat} (h0 : ∀ f, σ.1 k f i = τ.1 k f i) (l : List (Nat × Nat × Nat)) : ∀ f, q_fs ad σ k i f l = q_fs ad τ k i f l := by
  induction l with
  | nil => intro f; rfl
  | cons d r ih =>
    intro f
    show q_tv ad (q_fv σ k i f d) :: q_fs ad σ k i (f + 1) r = q_tv ad (q_fv τ k i f d) :: q_fs ad τ k i (f + 1) r
    rw [ih, q_fv, q_fv, h0]
theorem cj_eq {cy : Nat → ClassId} {ad : Nat → Nat → Nat} {n : Nat} {σ τ : J} {k i : Nat} (h0 : ∀ f, σ.1 k f i = τ.1 k f i) (h1 : σ.2.1 k i = τ.2.1 k i) (h2 : σ.2.2.1 k i = τ.2.2.1 k i) (h3 : σ.2.2.2 k i = τ.2.2.2 k i) : cj cy ad n σ k i = cj cy ad n τ k i := by
  unfold cj
  cases q_ko k with
  | some w => show (Sum.inr (w.1, _) : va_E) = Sum.inr (w.1, _); rw [q_fs_eq h0]
  | none =>
    cases q_ka k with
    | none => rfl
    | some w =>
      show (Sum.inl (cy w.1, q_nn n w.2.2, _) : va_E) = Sum.inl (cy w.1, q_nn n w.2.2, _)
      unfold q_ar
      rw [h1, h2, h3]
/-- the state behind a store into a field -/
theorem cj_sI {cy : Nat → ClassId} {ad : Nat → Nat → Nat} {n : Nat} {σ : J} {k i f : Nat} {v : Int32} {w : Nat × List (Nat × Nat × Nat)} {d : Nat × Nat × Nat} (h : q_ko k = some w) (hd : w.2[f]? = some d) (h2 : d.1 < 2) : hup (cj cy ad n σ) k i (.inr (w.1, (q_fs ad σ k i 0 w.2).set f (.int v))) = cj cy ad n (q_sI σ k f i v) := by
  funext k' i'
  by_cases hk : k' = k ∧ i' = i
  · obtain ⟨rfl, rfl⟩ := hk
    rw [show hup (cj cy ad n σ) k' i' (.inr (w.1, (q_fs ad σ k' i' 0 w.2).set f (.int v))) k' i' = .inr (w.1, (q_fs ad σ k' i' 0 w.2).set f (.int v)) by simp [hup], cj_o h]
    congr 2
    apply List.ext_getElem?
    intro j
    have hl : f < (q_fs ad σ k' i' 0 w.2).length := by
      rw [q_fs_len]
      exact (List.getElem?_eq_some_iff.mp hd).1
    by_cases hj : j = f
    · subst hj
      rw [List.getElem?_set_self hl, q_fs_at, hd]
      simp [q_fv, q_sI, q_tv, Nat.blt_eq.mpr h2]
    · rw [List.getElem?_set_ne (Ne.symm hj), q_fs_at, q_fs_at]
      cases hx : w.2[j]? with
      | none => rfl
      | some d' => simp [q_fv, q_sI, hj]
  · rw [show hup (cj cy ad n σ) k i (.inr (w.1, (q_fs ad σ k i 0 w.2).set f (.int v))) k' i' = cj cy ad n σ k' i' by simp [hup, hk]]
    exact cj_eq (fun j => (if_neg fun q => hk ⟨q.1, q.2.2⟩).symm) rfl rfl rfl
theorem cj_sA {cy : Nat → ClassId} {ad : Nat → Nat → Nat} {n : Nat} {σ : J} {k i : Nat} {g : Nat → Int32} {w : Nat × Nat × Nat × Nat} (h : q_ka k = some w) (ht : w.1 = 0 ∨ w.1 = 2) : hup (cj cy ad n σ) k i (.inl (cy w.1, q_nn n w.2.2, .inl g)) = cj cy ad n (q_sA σ k i g) := by
  funext k' i'
  by_cases hk : k' = k ∧ i' = i
  · obtain ⟨rfl, rfl⟩ := hk
    rw [show hup (cj cy ad n σ) k' i' (.inl (cy w.1, q_nn n w.2.2, .inl g)) k' i' = .inl (cy w.1, q_nn n w.2.2, .inl g) by simp [hup], cj_a h]
    rcases ht with ht | ht <;> simp [ht, q_ar, q_sA]
  · rw [show hup (cj cy ad n σ) k i (.inl (cy w.1, q_nn n w.2.2, .inl g)) k' i' = cj cy ad n σ k' i' by simp [hup, hk]]
    exact cj_eq (fun _ => rfl) (if_neg hk).symm rfl rfl
theorem cj_sL {cy : Nat → ClassId} {ad : Nat → Nat → Nat} {n : Nat} {σ : J} {k i : Nat} {g : Nat → Int64} {w : Nat × Nat × Nat × Nat} (h : q_ka k = some w) (ht : w.1 = 1) : hup (cj cy ad n σ) k i (.inl (cy w.1, q_nn n w.2.2, .inr (.inl g))) = cj cy ad n (q_sL σ k i g) := by
  funext k' i'
  by_cases hk : k' = k ∧ i' = i
  · obtain ⟨rfl, rfl⟩ := hk
    rw [show hup (cj cy ad n σ) k' i' (.inl (cy w.1, q_nn n w.2.2, .inr (.inl g))) k' i' = .inl (cy w.1, q_nn n w.2.2, .inr (.inl g)) by simp [hup], cj_a h]
    simp [ht, q_ar, q_sL]
  · rw [show hup (cj cy ad n σ) k i (.inl (cy w.1, q_nn n w.2.2, .inr (.inl g))) k' i' = cj cy ad n σ k' i' by simp [hup, hk]]
    exact cj_eq (fun _ => rfl) rfl (if_neg hk).symm rfl
theorem q_ar_q {ad : Nat → Nat → Nat} {σ : J} {t ek k i : Nat} (h : 2 < t) : q_ar ad σ t ek k i = .inr (.inr (.inr (.inr (fun j => some (ad ek (σ.2.2.2 k i j)))))) := by
  match t, h with
  | _ + 3, _ => rfl
theorem cj_sP {cy : Nat → ClassId} {ad : Nat → Nat → Nat} {n : Nat} {σ : J} {k i : Nat} {g : Nat → Nat} {w : Nat × Nat × Nat × Nat} (h : q_ka k = some w) (ht : 2 < w.1) : hup (cj cy ad n σ) k i (.inl (cy w.1, q_nn n w.2.2, .inr (.inr (.inr (.inr (fun j => some (ad w.2.1 (g j)))))))) = cj cy ad n (q_sP σ k i g) := by
  funext k' i'
  by_cases hk : k' = k ∧ i' = i
  · obtain ⟨rfl, rfl⟩ := hk
    rw [show hup (cj cy ad n σ) k' i' (.inl (cy w.1, q_nn n w.2.2, .inr (.inr (.inr (.inr (fun j => some (ad w.2.1 (g j)))))))) k' i' = .inl (cy w.1, q_nn n w.2.2, .inr (.inr (.inr (.inr (fun j => some (ad w.2.1 (g j))))))) by simp [hup], cj_a h, q_ar_q ht]
    simp [q_sP]
  · rw [show hup (cj cy ad n σ) k i (.inl (cy w.1, q_nn n w.2.2, .inr (.inr (.inr (.inr (fun j => some (ad w.2.1 (g j)))))))) k' i' = cj cy ad n σ k' i' by simp [hup, hk]]
    exact cj_eq (fun _ => rfl) rfl rfl (if_neg hk).symm
end
section
/-! What an instruction of the tables must be, checked by program; facts of the tables of kinds. Ours. -/
def q_wd (pl : Nat) (w : Cond) : Bool := decide (lw_tbl[pl]? = some w) && goodWord w
theorem q_wd_in {pl : Nat} {w : Cond} (h : q_wd pl w = true) : w ∈ gt := by
  unfold q_wd at h
  rw [Bool.and_eq_true] at h
  exact gt_of (List.mem_of_getElem? (of_decide_eq_true h.1)) h.2
def q_dc (cc : ByteArray) (pc : Nat) (i : Instr) (len : Nat) : Bool := decide (decode cc pc = .ok (i, len))
theorem q_dd {cc : ByteArray} {pc : Nat} {i : Instr} {len : Nat} (h : q_dc cc pc i len = true) : decode cc pc = .ok (i, len) := of_decide_eq_true h
def q_cl (ci : Nat) : vw_C := vcl.getD ci ("", fun _ => ("", "", "", false), 0)
def q_ny (y : MethodName) (C : String) (na : Nat) : Bool := decide (y.cls = C ∧ y.cls ≠ "java/lang/invoke/MethodHandle" ∧ y.cls ≠ "java/lang/invoke/VarHandle" ∧ (parseMethodDescriptor y.desc).map (fun d => d.parameters.length) = some na)
def q_tg (pc : Nat) (x : Int) (a : Nat) : Bool := decide ((pc : Int) + x = (a : Int))
def q_okB (mt : Nat → MRow) (k pc : Nat) (o : Op) : Bool := match o.1 with
  | 0 => q_dc (mt k).2.1 pc (.iconst o.2.1) 1
  | 1 => q_dc (mt k).2.1 pc (.bipush o.2.1) 2 && decide ((Int8.ofInt o.2.1).toInt32 = Int32.ofInt o.2.1)
  | 2 => q_dc (mt k).2.1 pc (.sipush o.2.1) 3 && decide ((Int16.ofInt o.2.1).toInt32 = Int32.ofInt o.2.1)
  | 3 => q_dc (mt k).2.1 pc (.lconst (Fin.ofNat 2 o.2.2.1)) 1 && decide (Int64.ofNat ((Fin.ofNat 2 o.2.2.1 : Fin 2) : Nat) = Int64.ofInt o.2.1)
  | 4 => q_dc (mt k).2.1 pc (.ldc2_w o.2.2.1) 3 && q_wd o.2.2.2.1 (.constantLong (mt k).1.cls o.2.2.1 (Int64.ofInt o.2.1))
  | 6 => q_dc (mt k).2.1 pc (.iload_n (Fin.ofNat 4 o.2.2.1)) 1 && decide (((Fin.ofNat 4 o.2.2.1 : Fin 4) : Nat) = o.2.2.1) && Nat.blt o.2.2.1 (mt k).2.2.1
  | 7 => q_dc (mt k).2.1 pc (.iload o.2.2.1) 2 && Nat.blt o.2.2.1 (mt k).2.2.1
  | 8 => q_dc (mt k).2.1 pc (.lload_n (Fin.ofNat 4 o.2.2.1)) 1 && decide (((Fin.ofNat 4 o.2.2.1 : Fin 4) : Nat) = o.2.2.1) && Nat.blt o.2.2.1 (mt k).2.2.1
  | 9 => q_dc (mt k).2.1 pc (.lload o.2.2.1) 2 && Nat.blt o.2.2.1 (mt k).2.2.1
  | 10 => q_dc (mt k).2.1 pc (.aload_n (Fin.ofNat 4 o.2.2.1)) 1 && decide (((Fin.ofNat 4 o.2.2.1 : Fin 4) : Nat) = o.2.2.1) && Nat.blt o.2.2.1 (mt k).2.2.1
  | 11 => q_dc (mt k).2.1 pc (.aload o.2.2.1) 2 && Nat.blt o.2.2.1 (mt k).2.2.1
  | 12 => q_dc (mt k).2.1 pc (.istore_n (Fin.ofNat 4 o.2.2.1)) 1 && decide (((Fin.ofNat 4 o.2.2.1 : Fin 4) : Nat) = o.2.2.1) && Nat.blt o.2.2.1 (mt k).2.2.1
  | 13 => q_dc (mt k).2.1 pc (.istore o.2.2.1) 2 && Nat.blt o.2.2.1 (mt k).2.2.1
  | 14 => q_dc (mt k).2.1 pc (.lstore_n (Fin.ofNat 4 o.2.2.1)) 1 && decide (((Fin.ofNat 4 o.2.2.1 : Fin 4) : Nat) = o.2.2.1) && Nat.blt (o.2.2.1 + 1) (mt k).2.2.1
  | 15 => q_dc (mt k).2.1 pc (.lstore o.2.2.1) 2 && Nat.blt (o.2.2.1 + 1) (mt k).2.2.1
  | 16 => q_dc (mt k).2.1 pc (.astore_n (Fin.ofNat 4 o.2.2.1)) 1 && decide (((Fin.ofNat 4 o.2.2.1 : Fin 4) : Nat) = o.2.2.1) && Nat.blt o.2.2.1 (mt k).2.2.1
  | 17 => q_dc (mt k).2.1 pc (.astore o.2.2.1) 2 && Nat.blt o.2.2.1 (mt k).2.2.1
  | 18 => q_dc (mt k).2.1 pc (.iinc o.2.2.1 o.2.1) 3 && Nat.blt o.2.2.1 (mt k).2.2.1
  | 19 => q_dc (mt k).2.1 pc .iadd 1
  | 20 => q_dc (mt k).2.1 pc .isub 1
  | 21 => q_dc (mt k).2.1 pc .imul 1
  | 22 => q_dc (mt k).2.1 pc .irem 1
  | 23 => q_dc (mt k).2.1 pc .iand 1
  | 24 => q_dc (mt k).2.1 pc .ior 1
  | 25 => q_dc (mt k).2.1 pc .ishl 1
  | 26 => q_dc (mt k).2.1 pc .ishr 1
  | 27 => q_dc (mt k).2.1 pc .ladd 1
  | 28 => q_dc (mt k).2.1 pc .land 1
  | 29 => q_dc (mt k).2.1 pc .lor 1
  | 30 => q_dc (mt k).2.1 pc .lshl 1
  | 31 => q_dc (mt k).2.1 pc .lshr 1
  | 32 => q_dc (mt k).2.1 pc .lushr 1
  | 33 => q_dc (mt k).2.1 pc .i2l 1
  | 34 => q_dc (mt k).2.1 pc .l2i 1
  | 35 => q_dc (mt k).2.1 pc .lcmp 1
  | 36 => q_dc (mt k).2.1 pc .dup 1
  | 37 => q_dc (mt k).2.1 pc .pop 1
  | 38 => q_dc (mt k).2.1 pc .dup2 1
  | 39 => q_dc (mt k).2.1 pc .aconst_null 1
  | 40 => q_dc (mt k).2.1 pc (.ifnull o.2.1) 3 && q_tg pc o.2.1 o.2.2.1
  | 41 => q_dc (mt k).2.1 pc (.ifnonnull o.2.1) 3 && q_tg pc o.2.1 o.2.2.1
  | 42 => q_dc (mt k).2.1 pc (.goto o.2.1) 3 && q_tg pc o.2.1 o.2.2.1
  | 43 => q_dc (mt k).2.1 pc (.ifCond .eq o.2.1) 3 && q_tg pc o.2.1 o.2.2.1
  | 44 => q_dc (mt k).2.1 pc (.ifCond .ne o.2.1) 3 && q_tg pc o.2.1 o.2.2.1
  | 45 => q_dc (mt k).2.1 pc (.ifCond .lt o.2.1) 3 && q_tg pc o.2.1 o.2.2.1
  | 46 => q_dc (mt k).2.1 pc (.ifCond .ge o.2.1) 3 && q_tg pc o.2.1 o.2.2.1
  | 47 => q_dc (mt k).2.1 pc (.ifCond .gt o.2.1) 3 && q_tg pc o.2.1 o.2.2.1
  | 48 => q_dc (mt k).2.1 pc (.ifCond .le o.2.1) 3 && q_tg pc o.2.1 o.2.2.1
  | 49 => q_dc (mt k).2.1 pc (.if_icmp .eq o.2.1) 3 && q_tg pc o.2.1 o.2.2.1
  | 50 => q_dc (mt k).2.1 pc (.if_icmp .ne o.2.1) 3 && q_tg pc o.2.1 o.2.2.1
  | 51 => q_dc (mt k).2.1 pc (.if_icmp .lt o.2.1) 3 && q_tg pc o.2.1 o.2.2.1
  | 52 => q_dc (mt k).2.1 pc (.if_icmp .ge o.2.1) 3 && q_tg pc o.2.1 o.2.2.1
  | 53 => q_dc (mt k).2.1 pc (.if_icmp .gt o.2.1) 3 && q_tg pc o.2.1 o.2.2.1
  | 54 => q_dc (mt k).2.1 pc (.if_icmp .le o.2.1) 3 && q_tg pc o.2.1 o.2.2.1
  | 55 => q_dc (mt k).2.1 pc (.tableswitch o.2.1 (o.2.2.1 : Int) ((o.2.2.1 + o.2.2.2.2.tail.length : Int) - 1) ((o.2.2.2.2.tail.map fun (t : Nat) => (t : Int) - (pc : Int)).toArray)) (o.2.2.2.2.getD 0 0) && q_tg pc o.2.1 o.2.2.2.1 && Nat.blt (o.2.2.1 + o.2.2.2.2.tail.length) 1000
  | 56 => q_dc (mt k).2.1 pc (.getfield o.2.2.1) 3 && q_wd (o.2.2.2.2.getD 1 0) (.fieldLink (mt k).1.cls o.2.2.1 ((q_cl (o.2.2.2.2.getD 0 0)).2.1 o.2.2.2.1).1 ((q_cl (o.2.2.2.2.getD 0 0)).2.1 o.2.2.2.1).2.1 ((q_cl (o.2.2.2.2.getD 0 0)).2.1 o.2.2.2.1).2.2.1)
  | 57 => q_dc (mt k).2.1 pc (.putfield o.2.2.1) 3 && q_wd (o.2.2.2.2.getD 1 0) (.fieldLink (mt k).1.cls o.2.2.1 ((q_cl (o.2.2.2.2.getD 0 0)).2.1 o.2.2.2.1).1 ((q_cl (o.2.2.2.2.getD 0 0)).2.1 o.2.2.2.1).2.1 ((q_cl (o.2.2.2.2.getD 0 0)).2.1 o.2.2.2.1).2.2.1) && !((q_cl (o.2.2.2.2.getD 0 0)).2.1 o.2.2.2.1).2.2.2
  | 58 => q_dc (mt k).2.1 pc .iaload 1
  | 59 => q_dc (mt k).2.1 pc .laload 1
  | 60 => q_dc (mt k).2.1 pc .aaload 1
  | 61 => q_dc (mt k).2.1 pc .baload 1
  | 62 => q_dc (mt k).2.1 pc .iastore 1
  | 63 => q_dc (mt k).2.1 pc .lastore 1
  | 64 => q_dc (mt k).2.1 pc .aastore 1
  | 65 => q_dc (mt k).2.1 pc .bastore 1
  | 66 => q_dc (mt k).2.1 pc .arraylength 1
  | 67 => q_dc (mt k).2.1 pc (.invokevirtual o.2.2.1) 3 && q_wd (o.2.2.2.2.getD 3 0) (.methodLink (mt k).1.cls o.2.2.1 (mt o.2.2.2.1).1) && q_wd (o.2.2.2.2.getD 4 0) (.instanceMethod (mt o.2.2.2.1).1) && q_wd (o.2.2.2.2.getD 5 0) (.selects (q_cl (o.2.2.2.2.getD 1 0)).1 (mt o.2.2.2.1).1 (mt o.2.2.2.1).1) && q_wd (o.2.2.2.2.getD 6 0) (.initialized (q_cl (o.2.2.2.2.getD 1 0)).1) && q_wd (o.2.2.2.2.getD 7 0) (.code (mt o.2.2.2.1).1 (mt o.2.2.2.1).2.1 (mt o.2.2.2.1).2.2.1 (mt o.2.2.2.1).2.2.2) && q_ny (mt o.2.2.2.1).1 (q_cl (o.2.2.2.2.getD 1 0)).1 (o.2.2.2.2.getD 0 0) && Nat.ble (mt o.2.2.2.1).2.2.1 30 && Nat.ble (o.2.2.2.2.getD 2 0 + 1) (mt o.2.2.2.1).2.2.1
  | 68 => q_dc (mt k).2.1 pc (.invokestatic o.2.2.1) 3 && q_wd (o.2.2.2.2.getD 3 0) (.methodLink (mt k).1.cls o.2.2.1 (mt o.2.2.2.1).1) && q_wd (o.2.2.2.2.getD 4 0) (.static (mt o.2.2.2.1).1) && q_wd (o.2.2.2.2.getD 6 0) (.initialized (mt k).1.cls) && q_wd (o.2.2.2.2.getD 7 0) (.code (mt o.2.2.2.1).1 (mt o.2.2.2.1).2.1 (mt o.2.2.2.1).2.2.1 (mt o.2.2.2.1).2.2.2) && q_ny (mt o.2.2.2.1).1 (mt k).1.cls (o.2.2.2.2.getD 0 0) && Nat.ble (mt o.2.2.2.1).2.2.1 30 && Nat.ble (o.2.2.2.2.getD 2 0) (mt o.2.2.2.1).2.2.1
  | 69 => q_dc (mt k).2.1 pc (.invokestatic o.2.2.1) 3 && q_wd (o.2.2.2.2.getD 0 0) (.methodLink (mt k).1.cls o.2.2.1 arraycopyName) && q_wd (o.2.2.2.2.getD 1 0) (.native arraycopyName) && q_wd (o.2.2.2.2.getD 2 0) (.static arraycopyName) && q_wd (o.2.2.2.2.getD 3 0) (.initialized "java/lang/System")
  | 70 => q_dc (mt k).2.1 pc (.invokestatic o.2.2.1) 3 && q_wd (o.2.2.2.2.getD 0 0) (.methodLink (mt k).1.cls o.2.2.1 Lib.MathLoose.max_long.x) && q_wd (o.2.2.2.2.getD 1 0) (.static Lib.MathLoose.max_long.x) && q_wd (o.2.2.2.2.getD 2 0) (.initialized "java/lang/Math") && q_wd (o.2.2.2.2.getD 3 0) (.code Lib.MathLoose.max_long.x Lib.MathLoose.max_long.code 4 (some .long))
  | 71 => q_dc (mt k).2.1 pc (.invokestatic o.2.2.1) 3 && q_wd (o.2.2.2.2.getD 0 0) (.methodLink (mt k).1.cls o.2.2.1 Lib.MathLoose.min_long.x) && q_wd (o.2.2.2.2.getD 1 0) (.static Lib.MathLoose.min_long.x) && q_wd (o.2.2.2.2.getD 2 0) (.initialized "java/lang/Math") && q_wd (o.2.2.2.2.getD 3 0) (.code Lib.MathLoose.min_long.x Lib.MathLoose.min_long.code 4 (some .long))
  | 72 => q_dc (mt k).2.1 pc .ireturn 1 && decide ((mt k).2.2.2 = some .int)
  | 73 => q_dc (mt k).2.1 pc .ireturn 1 && decide ((mt k).2.2.2 = some .boolean)
  | 74 => q_dc (mt k).2.1 pc .lreturn 1 && decide ((mt k).2.2.2 = some .long)
  | 75 => q_dc (mt k).2.1 pc .areturn 1 && (match (mt k).2.2.2 with
    | some (.object _) => true
    | _ => false)
  | 76 => q_dc (mt k).2.1 pc .return_ 1 && decide ((mt k).2.2.2 = none)
  | _ => true
-- facts of the tables of kinds
def q_clB (k : Nat) (d : Nat × Nat × Nat) : Bool := Nat.blt d.1 2 || (match d.2.2 with
  | 0 => Nat.ble 1 (q_ctt.getD d.2.1 (0, 0)).1
  | 1 => Nat.ble (q_ctt.getD k (0, 0)).1 (q_ctt.getD d.2.1 (0, 0)).1 && Nat.ble (q_ctt.getD k (0, 0)).2 (q_ctt.getD d.2.1 (0, 0)).2
  | 2 => Nat.ble (20 + (q_ctt.getD k (0, 0)).1) (q_ctt.getD d.2.1 (0, 0)).1 && Nat.ble (q_ctt.getD k (0, 0)).2 (q_ctt.getD d.2.1 (0, 0)).2
  | _ => Nat.ble ((q_ctt.getD k (0, 0)).1 + 1) (q_ctt.getD d.2.1 (0, 0)).1 && Nat.ble (q_ctt.getD k (0, 0)).2 (q_ctt.getD d.2.1 (0, 0)).2)
def q_kB (k : Nat) : Bool := match q_ko k with
  | none => true
  | some w => Nat.blt w.1 vcl.length && Nat.beq w.2.length (q_cl w.1).2.2 && w.2.all (q_clB k) && (List.range w.2.length).all (fun f => match w.2[f]? with
    | some (0, _) => decide (((q_cl w.1).2.1 f).2.2.1 = "I")
    | some (1, _) => decide (((q_cl w.1).2.1 f).2.2.1 = "Z")
    | _ => true)
theorem q_kB_all : (List.range q_kot.length).all q_kB = true := by decide +kernel
theorem q_kB_at {k : Nat} {w : Nat × List (Nat × Nat × Nat)} (h : q_ko k = some w) : w.1 < vcl.length ∧ w.2.length = (q_cl w.1).2.2 ∧ (∀ d ∈ w.2, q_clB k d = true) ∧ ∀ (f : Nat) (d : Nat × Nat × Nat), w.2[f]? = some d → (d.1 = 0 → ((q_cl w.1).2.1 f).2.2.1 = "I") ∧ (d.1 = 1 → ((q_cl w.1).2.1 f).2.2.1 = "Z") := by
  have h1 := List.all_eq_true.mp q_kB_all k (List.mem_range.mpr (q_ko_lt h))
  unfold q_kB at h1
  rw [h] at h1
  simp only [Bool.and_eq_true] at h1
  obtain ⟨⟨⟨a1, a2⟩, a3⟩, a4⟩ := h1
  refine ⟨Nat.blt_eq.mp a1, Nat.eq_of_beq_eq_true a2, fun d hd => List.all_eq_true.mp a3 d hd, fun f d hd => ?_⟩
  have h5 := List.all_eq_true.mp a4 f (List.mem_range.mpr (List.getElem?_eq_some_iff.mp hd).1)
  rw [hd] at h5
  obtain ⟨t, d2⟩ := d
  constructor
  · rintro rfl
    exact of_decide_eq_true h5
  · rintro rfl
    exact of_decide_eq_true h5
theorem q_nn_le {n a b a' b' : Nat} (h1 : a ≤ a') (h2 : b ≤ b') : q_nn n (a, b) ≤ q_nn n (a', b') := by
  match b, b', h2 with
  | 0, 0, _ => exact h1
  | 0, 1, _ => show a ≤ a' + n; omega
  | 0, _ + 2, _ => show a ≤ a' + 3 * n; omega
  | 1, 1, _ => show a + n ≤ a' + n; omega
  | 1, _ + 2, _ => show a + n ≤ a' + 3 * n; omega
  | _ + 2, _ + 2, _ => show a + 3 * n ≤ a' + 3 * n; omega
theorem q_nn_ge {n a b : Nat} : a ≤ q_nn n (a, b) := by
  match b with
  | 0 => exact Nat.le_refl _
  | 1 => exact Nat.le_add_right _ _
  | _ + 2 => exact Nat.le_add_right _ _
theorem q_nn_add {n a b c : Nat} : q_nn n (a, b) + c = q_nn n (a + c, b) := by
  match b with
  | 0 => rfl
  | 1 => show a + n + c = a + c + n; omega
  | _ + 2 => show a + 3 * n + c = a + c + 3 * n; omega
theorem q_clo {n k i : Nat} {d : Nat × Nat × Nat} (hi : i < q_ct n k) (hd : q_clB k d = true) (h2 : ¬ d.1 < 2) : q_ix d.2.2 i < q_ct n d.2.1 := by
  unfold q_clB at hd
  rw [Bool.or_eq_true] at hd
  rcases hd with hd | hd
  · exact absurd (Nat.blt_eq.mp hd) h2
  obtain ⟨t, k', c⟩ := d
  unfold q_ct at hi ⊢
  generalize q_ctt.getD k (0, 0) = ab at hi hd
  dsimp only at hd ⊢
  generalize q_ctt.getD k' (0, 0) = ab' at hd ⊢
  obtain ⟨a, b⟩ := ab
  obtain ⟨a', b'⟩ := ab'
  have g := q_nn_ge (n := n) (a := a') (b := b')
  match c with
  | 0 =>
    have h := Nat.le_of_ble_eq_true hd
    show 0 < _
    dsimp only at h
    omega
  | 1 =>
    simp only [Bool.and_eq_true] at hd
    exact Nat.lt_of_lt_of_le hi (q_nn_le (Nat.le_of_ble_eq_true hd.1) (Nat.le_of_ble_eq_true hd.2))
  | 2 =>
    simp only [Bool.and_eq_true] at hd
    have h := q_nn_le (n := n) (Nat.le_of_ble_eq_true hd.1) (Nat.le_of_ble_eq_true hd.2)
    have e := q_nn_add (n := n) (a := a) (b := b) (c := 20)
    rw [Nat.add_comm 20 a] at h
    show 20 + i < _
    omega
  | _ + 3 =>
    simp only [Bool.and_eq_true] at hd
    have h := q_nn_le (n := n) (Nat.le_of_ble_eq_true hd.1) (Nat.le_of_ble_eq_true hd.2)
    have e := q_nn_add (n := n) (a := a) (b := b) (c := 1)
    show i + 1 < _
    omega
theorem q_fv_ok {n k i f : Nat} {σ : J} {w : Nat × List (Nat × Nat × Nat)} {d : Nat × Nat × Nat} (h : q_ko k = some w) (hd : w.2[f]? = some d) (hi : (k, i) ∈ idj n) : q_ok n (q_fv σ k i f d) = true := by
  unfold q_fv
  by_cases h2 : d.1 < 2
  · rw [Nat.blt_eq.mpr h2]
    rfl
  · have e : Nat.blt d.1 2 = false := by
      cases hb : Nat.blt d.1 2 with
      | false => rfl
      | true => exact absurd (Nat.blt_eq.mp hb) h2
    rw [e]
    exact Nat.blt_eq.mpr (q_clo (idj_lt hi) ((q_kB_at h).2.2.1 d (List.mem_of_getElem? hd)) h2)
theorem q_cl_at {ci : Nat} (h : ci < vcl.length) : vcl[ci]? = some ((q_cl ci).1, (q_cl ci).2.1, (q_cl ci).2.2) := by
  unfold q_cl
  rw [List.getD_eq_getElem?_getD, List.getElem?_eq_getElem h]
  rfl
end
section
/-! Each step of the interpreter is a step of the machine: constants, locals, arithmetic, branches. Ours, written by sound.py -/
/-- the machine in a frame of method k at pc, with these locals, this operand stack, this state, comes to Q -/
def q_oks (n : Nat) : List PV → Prop
  | [] => True
  | v :: r => q_ok n v = true ∧ q_oks n r
/-- what is known of the locals, as a list -/
def q_ll (ad : Nat → Nat → Nat) (nL : Nat) (L : PL) : List (Nat × Value) := (List.range nL).filterMap fun a => (L a).map fun v => (a, q_tv ad v)
def q_tn : List FieldType := [.int, .long, .boolean, .object "JobBoard$Session", .object "JobBoard$Tuple", .object "JobBoard$Pattern", .object "JobBoard$Order"]
def q_ty (cy : Nat → ClassId) : List (ClassId × FieldType) := [(cy 0, .int), (cy 1, .long), (cy 2, .boolean), (cy 3, .object "JobBoard$Session"), (cy 4, .object "JobBoard$Tuple"), (cy 5, .object "JobBoard$Pattern"), (cy 6, .object "JobBoard$Order")]
def q_Cx (mt : Nat → MRow) (p : Program) (s : State) (m : MethodId) (meth : Method) (c : Code) (args : Array Value) (k : Nat) (D : va_G) (cy : Nat → ClassId) (n : Nat) (ad : Nat → Nat → Nat) (A : Nat → Prop) (R : Room) (cells slots : Nat) : Prop :=
  p.tables.exec = Jvm.exec ∧ c.code = (mt k).2.1 ∧ c.maxLocals = (mt k).2.2.1 ∧ s.vm.findClass (mt k).1.cls = some m.cls ∧ (∀ w ∈ gt, w.before args s = true) ∧ va_K D vcl (q_ty cy) s ∧ meth.sig.returnType = (mt k).2.2.2 ∧ meth.locks = false ∧ (∀ cn, va_D A (wl (idj n) ad cn)) ∧ 1 ≤ R.frames ∧ 40 ≤ R.locals ∧ cells ≤ R.cells ∧ slots ≤ R.slots
def q_W (mt : Nat → MRow) (p : Program) (l : Launch) (e : Env) (R : Room) (s : State) (m : MethodId) (args : Array Value) (below : List Frame) (meth : Method) (c : Code) (Q : State → Prop) (D : va_G) (cy : Nat → ClassId) (ad : Nat → Nat → Nat) (n : Nat) (A : Nat → Prop) (k cells slots pc : Nat) (L : PL) (st : List PV) (σ : J) : Prop :=
  ∀ (H : Heap) (locs : List Loc) (ls : Array Slot), WJ D cy ad n σ H → va_S A s.heap H locs → lv_has ls (mt k).2.2.1 (q_ll ad (mt k).2.2.1 L) → (∀ a v, L a = some v → q_ok n v = true) → q_oks n st → W p l e R s m args below meth c H locs cells slots Q (F0 m pc ls (st.map (q_tv ad)))
theorem q_pI_s {st : List PV} {q : Int32 × List PV} (h : q_pI st = some q) : st = .inl q.1 :: q.2 := by
  match st, h with
  | [], h => cases h
  | .inl x :: r, h => cases h; rfl
  | .inr _ :: _, h => cases h
theorem q_pL_s {st : List PV} {q : Int64 × List PV} (h : q_pL st = some q) : st = .inr (.inl q.1) :: q.2 := by
  match st, h with
  | [], h => cases h
  | .inl _ :: _, h => cases h
  | .inr (.inl x) :: r, h => cases h; rfl
  | .inr (.inr _) :: _, h => cases h
theorem q_pR_s {st : List PV} {q : (Nat × Nat) × List PV} (h : q_pR st = some q) : st = .inr (.inr (some q.1)) :: q.2 := by
  match st, h with
  | [], h => cases h
  | .inl _ :: _, h => cases h
  | .inr (.inl _) :: _, h => cases h
  | .inr (.inr none) :: _, h => cases h
  | .inr (.inr (some x)) :: r, h => cases h; rfl
theorem q_pN_s {st : List PV} {q : Option (Nat × Nat) × List PV} (h : q_pN st = some q) : st = .inr (.inr q.1) :: q.2 := by
  match st, h with
  | [], h => cases h
  | .inl _ :: _, h => cases h
  | .inr (.inl _) :: _, h => cases h
  | .inr (.inr x) :: r, h => cases h; rfl
theorem q_p1_s {st : List PV} {q : PV × List PV} (h : q_p1 st = some q) : st = q.1 :: q.2 := by
  match st, h with
  | [], h => cases h
  | .inl _ :: _, h => cases h; rfl
  | .inr (.inl _) :: _, h => cases h
  | .inr (.inr x) :: r, h => cases h; rfl
theorem q_cat_tv (ad : Nat → Nat → Nat) (v : PV) : (q_tv ad v).category = q_cat v := by
  match v with
  | .inl _ => rfl
  | .inr (.inl _) => rfl
  | .inr (.inr none) => rfl
  | .inr (.inr (some _)) => rfl
theorem q_p1_c {ad : Nat → Nat → Nat} {st : List PV} {q : PV × List PV} (h : q_p1 st = some q) : (q_tv ad q.1).category = 1 := by
  rw [q_cat_tv]
  match st, h with
  | [], h => cases h
  | .inl _ :: _, h => cases h; rfl
  | .inr (.inl _) :: _, h => cases h
  | .inr (.inr x) :: r, h => cases h; rfl
theorem q_ll_in {ad : Nat → Nat → Nat} {nL : Nat} {L : PL} {a : Nat} {v : PV} (ha : a < nL) (h : L a = some v) : (a, q_tv ad v) ∈ q_ll ad nL L := List.mem_filterMap.mpr ⟨a, List.mem_range.mpr ha, by rw [h]; rfl⟩
theorem q_ll_of {ad : Nat → Nat → Nat} {nL : Nat} {L : PL} {q : Nat × Value} (h : q ∈ q_ll ad nL L) : q.1 < nL ∧ ∃ v, L q.1 = some v ∧ q.2 = q_tv ad v := by
  obtain ⟨a, h1, h2⟩ := List.mem_filterMap.mp h
  cases hL : L a with
  | none => rw [hL] at h2; cases h2
  | some v =>
    rw [hL] at h2
    cases h2
    exact ⟨List.mem_range.mp h1, v, hL, rfl⟩
theorem q_ll_at {ad : Nat → Nat → Nat} {ls : Array Slot} {nL : Nat} {L : PL} {a : Nat} {v : PV} (hl : lv_has ls nL (q_ll ad nL L)) (ha : a < nL) (h : L a = some v) : ls[a]? = some (.val (q_tv ad v)) := hl.2.2 (a, q_tv ad v) (q_ll_in ha h)
theorem q_beq_ne {a b : Nat} (h : Nat.beq a b = false) : ¬ a = b := fun e => by
  subst e
  rw [Nat.beq_refl] at h
  cases h
theorem q_s1_has {ad : Nat → Nat → Nat} {ls : Array Slot} {nL : Nat} {L : PL} {a : Nat} {v : PV} (hl : lv_has ls nL ((a, q_tv ad v) :: (q_ll ad nL L).filter (fun q => !(q.1 == a) && !(q.1 + 1 == a && q.2.category == 2)))) : lv_has ls nL (q_ll ad nL (q_s1 L a v)) := by
  refine ⟨hl.1, hl.2.1, fun q hq => hl.2.2 q ?_⟩
  obtain ⟨h1, w, h2, h3⟩ := q_ll_of hq
  obtain ⟨b, u⟩ := q
  dsimp only at h1 h2 h3
  subst h3
  unfold q_s1 at h2
  cases hb : Nat.beq b a with
  | true =>
    rw [hb] at h2
    have h2 : some v = some w := h2
    cases h2
    obtain rfl := Nat.eq_of_beq_eq_true hb
    exact List.mem_cons_self
  | false =>
    rw [hb] at h2
    replace h2 : (bif Nat.beq (b + 1) a then (match L b with
      | some w => bif Nat.beq (q_cat w) 2 then none else some w
      | none => none) else L b) = some w := h2
    have hne := q_beq_ne hb
    refine List.mem_cons_of_mem _ (List.mem_filter.mpr ?_)
    cases hc : Nat.beq (b + 1) a with
    | true =>
      rw [hc] at h2
      cases hL : L b with
      | none => rw [hL] at h2; cases h2
      | some w' =>
        rw [hL] at h2
        replace h2 : (bif Nat.beq (q_cat w') 2 then none else some w') = some w := h2
        cases hd : Nat.beq (q_cat w') 2 with
        | true => rw [hd] at h2; cases h2
        | false =>
          rw [hd] at h2
          have h2 : some w' = some w := h2
          cases h2
          have := q_beq_ne hd
          exact ⟨q_ll_in h1 hL, by simp [hne, q_cat_tv, this]⟩
    | false =>
      rw [hc] at h2
      have := q_beq_ne hc
      exact ⟨q_ll_in h1 h2, by simp [hne, this]⟩
theorem q_s2_has {ad : Nat → Nat → Nat} {ls : Array Slot} {nL : Nat} {L : PL} {a : Nat} {v : PV} (hl : lv_has ls nL ((a, q_tv ad v) :: (q_ll ad nL L).filter (fun q => !(q.1 == a) && (!(q.1 == a + 1) && !(q.1 + 1 == a && q.2.category == 2))))) : lv_has ls nL (q_ll ad nL (q_s2 L a v)) := by
  refine ⟨hl.1, hl.2.1, fun q hq => hl.2.2 q ?_⟩
  obtain ⟨h1, w, h2, h3⟩ := q_ll_of hq
  obtain ⟨b, u⟩ := q
  dsimp only at h1 h2 h3
  subst h3
  unfold q_s2 at h2
  cases hb : Nat.beq b a with
  | true =>
    rw [hb] at h2
    have h2 : some v = some w := h2
    cases h2
    obtain rfl := Nat.eq_of_beq_eq_true hb
    exact List.mem_cons_self
  | false =>
    rw [hb] at h2
    replace h2 : (bif Nat.beq b (a + 1) then none else bif Nat.beq (b + 1) a then (match L b with
      | some w => bif Nat.beq (q_cat w) 2 then none else some w
      | none => none) else L b) = some w := h2
    have hne := q_beq_ne hb
    refine List.mem_cons_of_mem _ (List.mem_filter.mpr ?_)
    cases hx : Nat.beq b (a + 1) with
    | true => rw [hx] at h2; cases h2
    | false =>
      rw [hx] at h2
      replace h2 : (bif Nat.beq (b + 1) a then (match L b with
        | some w => bif Nat.beq (q_cat w) 2 then none else some w
        | none => none) else L b) = some w := h2
      have hnx := q_beq_ne hx
      cases hc : Nat.beq (b + 1) a with
      | true =>
        rw [hc] at h2
        cases hL : L b with
        | none => rw [hL] at h2; cases h2
        | some w' =>
          rw [hL] at h2
          replace h2 : (bif Nat.beq (q_cat w') 2 then none else some w') = some w := h2
          cases hd : Nat.beq (q_cat w') 2 with
          | true => rw [hd] at h2; cases h2
          | false =>
            rw [hd] at h2
            have h2 : some w' = some w := h2
            cases h2
            have := q_beq_ne hd
            exact ⟨q_ll_in h1 hL, by simp [hne, hnx, q_cat_tv, this]⟩
      | false =>
        rw [hc] at h2
        have := q_beq_ne hc
        exact ⟨q_ll_in h1 h2, by simp [hne, hnx, this]⟩
theorem q_s1_le {L : PL} {a b : Nat} {v w : PV} (h : q_s1 L a v b = some w) : w = v ∨ L b = some w := by
  unfold q_s1 at h
  cases hb : Nat.beq b a with
  | true =>
    rw [hb] at h
    have h : some v = some w := h
    cases h
    exact Or.inl rfl
  | false =>
    rw [hb] at h
    replace h : (bif Nat.beq (b + 1) a then (match L b with
      | some w => bif Nat.beq (q_cat w) 2 then none else some w
      | none => none) else L b) = some w := h
    cases hc : Nat.beq (b + 1) a with
    | true =>
      rw [hc] at h
      cases hL : L b with
      | none => rw [hL] at h; cases h
      | some w' =>
        rw [hL] at h
        replace h : (bif Nat.beq (q_cat w') 2 then none else some w') = some w := h
        cases hd : Nat.beq (q_cat w') 2 with
        | true => rw [hd] at h; cases h
        | false => rw [hd] at h; exact Or.inr h
    | false => rw [hc] at h; exact Or.inr h
theorem q_s2_le {L : PL} {a b : Nat} {v w : PV} (h : q_s2 L a v b = some w) : w = v ∨ L b = some w := by
  unfold q_s2 at h
  cases hb : Nat.beq b a with
  | true =>
    rw [hb] at h
    have h : some v = some w := h
    cases h
    exact Or.inl rfl
  | false =>
    rw [hb] at h
    replace h : (bif Nat.beq b (a + 1) then none else bif Nat.beq (b + 1) a then (match L b with
      | some w => bif Nat.beq (q_cat w) 2 then none else some w
      | none => none) else L b) = some w := h
    cases hx : Nat.beq b (a + 1) with
    | true => rw [hx] at h; cases h
    | false =>
      rw [hx] at h
      replace h : (bif Nat.beq (b + 1) a then (match L b with
        | some w => bif Nat.beq (q_cat w) 2 then none else some w
        | none => none) else L b) = some w := h
      cases hc : Nat.beq (b + 1) a with
      | true =>
        rw [hc] at h
        cases hL : L b with
        | none => rw [hL] at h; cases h
        | some w' =>
          rw [hL] at h
          replace h : (bif Nat.beq (q_cat w') 2 then none else some w') = some w := h
          cases hd : Nat.beq (q_cat w') 2 with
          | true => rw [hd] at h; cases h
          | false => rw [hd] at h; exact Or.inr h
      | false => rw [hc] at h; exact Or.inr h
theorem q_s1_ok {n : Nat} {L : PL} {a : Nat} {v : PV} (hL : ∀ b w, L b = some w → q_ok n w = true) (hv : q_ok n v = true) : ∀ b w, q_s1 L a v b = some w → q_ok n w = true := by
  intro b w h
  rcases q_s1_le h with rfl | h
  · exact hv
  · exact hL b w h
theorem q_s2_ok {n : Nat} {L : PL} {a : Nat} {v : PV} (hL : ∀ b w, L b = some w → q_ok n w = true) (hv : q_ok n v = true) : ∀ b w, q_s2 L a v b = some w → q_ok n w = true := by
  intro b w h
  rcases q_s2_le h with rfl | h
  · exact hv
  · exact hL b w h
section SND
variable {mt : Nat → MRow} {p : Program} {l : Launch} {e : Env} {R : Room} {s : State} {m : MethodId} {args : Array Value} {below : List Frame} {meth : Method} {c : Code} {Q : State → Prop} {D : va_G} {cy : Nat → ClassId} {ad : Nat → Nat → Nat} {n k cells slots pc : Nat} {A : Nat → Prop} {g : Nat → PL → List PV → J → Option Res} {cal : Nat → List PV → J → Option Res} {r : Res} {L : PL} {st : List PV} {σ : J} {ox : Int} {oa ob : Nat} {ol : List Nat}
theorem z_0 (cx : q_Cx mt p s m meth c args k D cy n ad A R cells slots) (hg : ∀ pc L st σ, g pc L st σ = some r → q_W mt p l e R s m args below meth c Q D cy ad n A k cells slots pc L st σ) (ho : q_okB mt k pc (0, ox, oa, ob, ol) = true) (h : q_stp n g cal pc (0, ox, oa, ob, ol) L st σ = some r) : q_W mt p l e R s m args below meth c Q D cy ad n A k cells slots pc L st σ := by
  replace ho : q_dc (mt k).2.1 pc (.iconst ox) 1 = true := ho
  replace h : (g (pc + 1) L (.inl (Int32.ofInt ox) :: st) σ) = some r := h
  intro H locs ls hP hS hl hL hst
  exact lv_iconst cx.1 cx.2.1 (q_dd ho) rfl (hg _ _ _ _ h H locs ls hP hS hl hL ⟨rfl, hst⟩)
theorem z_1 (cx : q_Cx mt p s m meth c args k D cy n ad A R cells slots) (hg : ∀ pc L st σ, g pc L st σ = some r → q_W mt p l e R s m args below meth c Q D cy ad n A k cells slots pc L st σ) (ho : q_okB mt k pc (1, ox, oa, ob, ol) = true) (h : q_stp n g cal pc (1, ox, oa, ob, ol) L st σ = some r) : q_W mt p l e R s m args below meth c Q D cy ad n A k cells slots pc L st σ := by
  replace ho : (q_dc (mt k).2.1 pc (.bipush ox) 2 && decide ((Int8.ofInt ox).toInt32 = Int32.ofInt ox)) = true := ho
  simp only [Bool.and_eq_true] at ho
  replace h : (g (pc + 2) L (.inl (Int32.ofInt ox) :: st) σ) = some r := h
  intro H locs ls hP hS hl hL hst
  exact lv_bipush cx.1 cx.2.1 (q_dd ho.1) (of_decide_eq_true ho.2) (hg _ _ _ _ h H locs ls hP hS hl hL ⟨rfl, hst⟩)
theorem z_2 (cx : q_Cx mt p s m meth c args k D cy n ad A R cells slots) (hg : ∀ pc L st σ, g pc L st σ = some r → q_W mt p l e R s m args below meth c Q D cy ad n A k cells slots pc L st σ) (ho : q_okB mt k pc (2, ox, oa, ob, ol) = true) (h : q_stp n g cal pc (2, ox, oa, ob, ol) L st σ = some r) : q_W mt p l e R s m args below meth c Q D cy ad n A k cells slots pc L st σ := by
  replace ho : (q_dc (mt k).2.1 pc (.sipush ox) 3 && decide ((Int16.ofInt ox).toInt32 = Int32.ofInt ox)) = true := ho
  simp only [Bool.and_eq_true] at ho
  replace h : (g (pc + 3) L (.inl (Int32.ofInt ox) :: st) σ) = some r := h
  intro H locs ls hP hS hl hL hst
  exact lv_sipush cx.1 cx.2.1 (q_dd ho.1) (of_decide_eq_true ho.2) (hg _ _ _ _ h H locs ls hP hS hl hL ⟨rfl, hst⟩)
theorem z_3 (cx : q_Cx mt p s m meth c args k D cy n ad A R cells slots) (hg : ∀ pc L st σ, g pc L st σ = some r → q_W mt p l e R s m args below meth c Q D cy ad n A k cells slots pc L st σ) (ho : q_okB mt k pc (3, ox, oa, ob, ol) = true) (h : q_stp n g cal pc (3, ox, oa, ob, ol) L st σ = some r) : q_W mt p l e R s m args below meth c Q D cy ad n A k cells slots pc L st σ := by
  replace ho : (q_dc (mt k).2.1 pc (.lconst (Fin.ofNat 2 oa)) 1 && decide (Int64.ofNat ((Fin.ofNat 2 oa : Fin 2) : Nat) = Int64.ofInt ox)) = true := ho
  simp only [Bool.and_eq_true] at ho
  replace h : (g (pc + 1) L (.inr (.inl (Int64.ofInt ox)) :: st) σ) = some r := h
  intro H locs ls hP hS hl hL hst
  exact lv_lconst cx.1 cx.2.1 (q_dd ho.1) (of_decide_eq_true ho.2) (hg _ _ _ _ h H locs ls hP hS hl hL ⟨rfl, hst⟩)
theorem z_4 (cx : q_Cx mt p s m meth c args k D cy n ad A R cells slots) (hg : ∀ pc L st σ, g pc L st σ = some r → q_W mt p l e R s m args below meth c Q D cy ad n A k cells slots pc L st σ) (ho : q_okB mt k pc (4, ox, oa, ob, ol) = true) (h : q_stp n g cal pc (4, ox, oa, ob, ol) L st σ = some r) : q_W mt p l e R s m args below meth c Q D cy ad n A k cells slots pc L st σ := by
  replace ho : (q_dc (mt k).2.1 pc (.ldc2_w oa) 3 && q_wd ob (.constantLong (mt k).1.cls oa (Int64.ofInt ox))) = true := ho
  simp only [Bool.and_eq_true] at ho
  replace h : g (pc + 3) L (.inr (.inl (Int64.ofInt ox)) :: st) σ = some r := h
  intro H locs ls hP hS hl hL hst
  exact lv_ldc2 cx.1 cx.2.1 cx.2.2.2.1 (cx.2.2.2.2.1 _ (q_wd_in ho.2)) (q_dd ho.1) (hg _ _ _ _ h H locs ls hP hS hl hL ⟨rfl, hst⟩)
theorem z_6 (cx : q_Cx mt p s m meth c args k D cy n ad A R cells slots) (hg : ∀ pc L st σ, g pc L st σ = some r → q_W mt p l e R s m args below meth c Q D cy ad n A k cells slots pc L st σ) (ho : q_okB mt k pc (6, ox, oa, ob, ol) = true) (h : q_stp n g cal pc (6, ox, oa, ob, ol) L st σ = some r) : q_W mt p l e R s m args below meth c Q D cy ad n A k cells slots pc L st σ := by
  replace ho : (q_dc (mt k).2.1 pc (.iload_n (Fin.ofNat 4 oa)) 1 && decide (((Fin.ofNat 4 oa : Fin 4) : Nat) = oa) && Nat.blt oa (mt k).2.2.1) = true := ho
  simp only [Bool.and_eq_true] at ho
  replace h : ((L oa).bind fun v => (q_pI (v :: st)).bind fun _ => g (pc + 1) L (v :: st) σ) = some r := h
  obtain ⟨v, e_v, h⟩ := Option.bind_eq_some_iff.mp h
  obtain ⟨w, e_w, h⟩ := Option.bind_eq_some_iff.mp h
  have e_1 := (List.cons.inj (q_pI_s e_w)).1
  intro H locs ls hP hS hl hL hst
  have h1 := q_ll_at hl (Nat.blt_eq.mp ho.2) e_v
  have h2 := hL _ _ e_v
  have h3 := hg _ _ _ _ h H locs ls hP hS hl hL ⟨h2, hst⟩
  rw [e_1] at h1 h3
  exact lv_iload_n cx.1 cx.2.1 (q_dd ho.1.1) (of_decide_eq_true ho.1.2) h1 h3
theorem z_7 (cx : q_Cx mt p s m meth c args k D cy n ad A R cells slots) (hg : ∀ pc L st σ, g pc L st σ = some r → q_W mt p l e R s m args below meth c Q D cy ad n A k cells slots pc L st σ) (ho : q_okB mt k pc (7, ox, oa, ob, ol) = true) (h : q_stp n g cal pc (7, ox, oa, ob, ol) L st σ = some r) : q_W mt p l e R s m args below meth c Q D cy ad n A k cells slots pc L st σ := by
  replace ho : (q_dc (mt k).2.1 pc (.iload oa) 2 && Nat.blt oa (mt k).2.2.1) = true := ho
  simp only [Bool.and_eq_true] at ho
  replace h : ((L oa).bind fun v => (q_pI (v :: st)).bind fun _ => g (pc + 2) L (v :: st) σ) = some r := h
  obtain ⟨v, e_v, h⟩ := Option.bind_eq_some_iff.mp h
  obtain ⟨w, e_w, h⟩ := Option.bind_eq_some_iff.mp h
  have e_1 := (List.cons.inj (q_pI_s e_w)).1
  intro H locs ls hP hS hl hL hst
  have h1 := q_ll_at hl (Nat.blt_eq.mp ho.2) e_v
  have h2 := hL _ _ e_v
  have h3 := hg _ _ _ _ h H locs ls hP hS hl hL ⟨h2, hst⟩
  rw [e_1] at h1 h3
  exact lv_iload cx.1 cx.2.1 (q_dd ho.1) h1 h3
theorem z_8 (cx : q_Cx mt p s m meth c args k D cy n ad A R cells slots) (hg : ∀ pc L st σ, g pc L st σ = some r → q_W mt p l e R s m args below meth c Q D cy ad n A k cells slots pc L st σ) (ho : q_okB mt k pc (8, ox, oa, ob, ol) = true) (h : q_stp n g cal pc (8, ox, oa, ob, ol) L st σ = some r) : q_W mt p l e R s m args below meth c Q D cy ad n A k cells slots pc L st σ := by
  replace ho : (q_dc (mt k).2.1 pc (.lload_n (Fin.ofNat 4 oa)) 1 && decide (((Fin.ofNat 4 oa : Fin 4) : Nat) = oa) && Nat.blt oa (mt k).2.2.1) = true := ho
  simp only [Bool.and_eq_true] at ho
  replace h : ((L oa).bind fun v => (q_pL (v :: st)).bind fun _ => g (pc + 1) L (v :: st) σ) = some r := h
  obtain ⟨v, e_v, h⟩ := Option.bind_eq_some_iff.mp h
  obtain ⟨w, e_w, h⟩ := Option.bind_eq_some_iff.mp h
  have e_1 := (List.cons.inj (q_pL_s e_w)).1
  intro H locs ls hP hS hl hL hst
  have h1 := q_ll_at hl (Nat.blt_eq.mp ho.2) e_v
  have h2 := hL _ _ e_v
  have h3 := hg _ _ _ _ h H locs ls hP hS hl hL ⟨h2, hst⟩
  rw [e_1] at h1 h3
  exact lv_lload_n cx.1 cx.2.1 (q_dd ho.1.1) (of_decide_eq_true ho.1.2) h1 h3
theorem z_9 (cx : q_Cx mt p s m meth c args k D cy n ad A R cells slots) (hg : ∀ pc L st σ, g pc L st σ = some r → q_W mt p l e R s m args below meth c Q D cy ad n A k cells slots pc L st σ) (ho : q_okB mt k pc (9, ox, oa, ob, ol) = true) (h : q_stp n g cal pc (9, ox, oa, ob, ol) L st σ = some r) : q_W mt p l e R s m args below meth c Q D cy ad n A k cells slots pc L st σ := by
  replace ho : (q_dc (mt k).2.1 pc (.lload oa) 2 && Nat.blt oa (mt k).2.2.1) = true := ho
  simp only [Bool.and_eq_true] at ho
  replace h : ((L oa).bind fun v => (q_pL (v :: st)).bind fun _ => g (pc + 2) L (v :: st) σ) = some r := h
  obtain ⟨v, e_v, h⟩ := Option.bind_eq_some_iff.mp h
  obtain ⟨w, e_w, h⟩ := Option.bind_eq_some_iff.mp h
  have e_1 := (List.cons.inj (q_pL_s e_w)).1
  intro H locs ls hP hS hl hL hst
  have h1 := q_ll_at hl (Nat.blt_eq.mp ho.2) e_v
  have h2 := hL _ _ e_v
  have h3 := hg _ _ _ _ h H locs ls hP hS hl hL ⟨h2, hst⟩
  rw [e_1] at h1 h3
  exact lv_lload cx.1 cx.2.1 (q_dd ho.1) h1 h3
theorem z_10 (cx : q_Cx mt p s m meth c args k D cy n ad A R cells slots) (hg : ∀ pc L st σ, g pc L st σ = some r → q_W mt p l e R s m args below meth c Q D cy ad n A k cells slots pc L st σ) (ho : q_okB mt k pc (10, ox, oa, ob, ol) = true) (h : q_stp n g cal pc (10, ox, oa, ob, ol) L st σ = some r) : q_W mt p l e R s m args below meth c Q D cy ad n A k cells slots pc L st σ := by
  replace ho : (q_dc (mt k).2.1 pc (.aload_n (Fin.ofNat 4 oa)) 1 && decide (((Fin.ofNat 4 oa : Fin 4) : Nat) = oa) && Nat.blt oa (mt k).2.2.1) = true := ho
  simp only [Bool.and_eq_true] at ho
  replace h : ((L oa).bind fun v => (q_pN (v :: st)).bind fun _ => g (pc + 1) L (v :: st) σ) = some r := h
  obtain ⟨v, e_v, h⟩ := Option.bind_eq_some_iff.mp h
  obtain ⟨w, e_w, h⟩ := Option.bind_eq_some_iff.mp h
  have e_1 := (List.cons.inj (q_pN_s e_w)).1
  intro H locs ls hP hS hl hL hst
  have h1 := q_ll_at hl (Nat.blt_eq.mp ho.2) e_v
  have h2 := hL _ _ e_v
  have h3 := hg _ _ _ _ h H locs ls hP hS hl hL ⟨h2, hst⟩
  rw [e_1] at h1 h3
  obtain ⟨w1, w2⟩ := w
  cases w1 with
  | none => exact lv_aload_nN cx.1 cx.2.1 (q_dd ho.1.1) (of_decide_eq_true ho.1.2) h1 h3
  | some q => exact lv_aload_n cx.1 cx.2.1 (q_dd ho.1.1) (of_decide_eq_true ho.1.2) h1 h3
theorem z_11 (cx : q_Cx mt p s m meth c args k D cy n ad A R cells slots) (hg : ∀ pc L st σ, g pc L st σ = some r → q_W mt p l e R s m args below meth c Q D cy ad n A k cells slots pc L st σ) (ho : q_okB mt k pc (11, ox, oa, ob, ol) = true) (h : q_stp n g cal pc (11, ox, oa, ob, ol) L st σ = some r) : q_W mt p l e R s m args below meth c Q D cy ad n A k cells slots pc L st σ := by
  replace ho : (q_dc (mt k).2.1 pc (.aload oa) 2 && Nat.blt oa (mt k).2.2.1) = true := ho
  simp only [Bool.and_eq_true] at ho
  replace h : ((L oa).bind fun v => (q_pN (v :: st)).bind fun _ => g (pc + 2) L (v :: st) σ) = some r := h
  obtain ⟨v, e_v, h⟩ := Option.bind_eq_some_iff.mp h
  obtain ⟨w, e_w, h⟩ := Option.bind_eq_some_iff.mp h
  have e_1 := (List.cons.inj (q_pN_s e_w)).1
  intro H locs ls hP hS hl hL hst
  have h1 := q_ll_at hl (Nat.blt_eq.mp ho.2) e_v
  have h2 := hL _ _ e_v
  have h3 := hg _ _ _ _ h H locs ls hP hS hl hL ⟨h2, hst⟩
  rw [e_1] at h1 h3
  obtain ⟨w1, w2⟩ := w
  cases w1 with
  | none => exact lv_aloadN cx.1 cx.2.1 (q_dd ho.1) h1 h3
  | some q => exact lv_aload cx.1 cx.2.1 (q_dd ho.1) h1 h3
theorem z_12 (cx : q_Cx mt p s m meth c args k D cy n ad A R cells slots) (hg : ∀ pc L st σ, g pc L st σ = some r → q_W mt p l e R s m args below meth c Q D cy ad n A k cells slots pc L st σ) (ho : q_okB mt k pc (12, ox, oa, ob, ol) = true) (h : q_stp n g cal pc (12, ox, oa, ob, ol) L st σ = some r) : q_W mt p l e R s m args below meth c Q D cy ad n A k cells slots pc L st σ := by
  replace ho : (q_dc (mt k).2.1 pc (.istore_n (Fin.ofNat 4 oa)) 1 && decide (((Fin.ofNat 4 oa : Fin 4) : Nat) = oa) && Nat.blt oa (mt k).2.2.1) = true := ho
  simp only [Bool.and_eq_true] at ho
  replace h : ((q_pI st).bind fun q => g (pc + 1) (q_s1 L oa (.inl q.1)) q.2 σ) = some r := h
  obtain ⟨q, e_q, h⟩ := Option.bind_eq_some_iff.mp h
  rw [q_pI_s e_q]
  intro H locs ls hP hS hl hL hst
  exact lv_istore_n cx.1 cx.2.1 (q_dd ho.1.1) (of_decide_eq_true ho.1.2) hl (Nat.blt_eq.mp ho.2) rfl (fun ls' hl' => hg _ _ _ _ h H locs ls' hP hS (q_s1_has hl') (q_s1_ok hL hst.1) hst.2)
theorem z_13 (cx : q_Cx mt p s m meth c args k D cy n ad A R cells slots) (hg : ∀ pc L st σ, g pc L st σ = some r → q_W mt p l e R s m args below meth c Q D cy ad n A k cells slots pc L st σ) (ho : q_okB mt k pc (13, ox, oa, ob, ol) = true) (h : q_stp n g cal pc (13, ox, oa, ob, ol) L st σ = some r) : q_W mt p l e R s m args below meth c Q D cy ad n A k cells slots pc L st σ := by
  replace ho : (q_dc (mt k).2.1 pc (.istore oa) 2 && Nat.blt oa (mt k).2.2.1) = true := ho
  simp only [Bool.and_eq_true] at ho
  replace h : ((q_pI st).bind fun q => g (pc + 2) (q_s1 L oa (.inl q.1)) q.2 σ) = some r := h
  obtain ⟨q, e_q, h⟩ := Option.bind_eq_some_iff.mp h
  rw [q_pI_s e_q]
  intro H locs ls hP hS hl hL hst
  exact lv_istore cx.1 cx.2.1 (q_dd ho.1) hl (Nat.blt_eq.mp ho.2) rfl (fun ls' hl' => hg _ _ _ _ h H locs ls' hP hS (q_s1_has hl') (q_s1_ok hL hst.1) hst.2)
theorem z_14 (cx : q_Cx mt p s m meth c args k D cy n ad A R cells slots) (hg : ∀ pc L st σ, g pc L st σ = some r → q_W mt p l e R s m args below meth c Q D cy ad n A k cells slots pc L st σ) (ho : q_okB mt k pc (14, ox, oa, ob, ol) = true) (h : q_stp n g cal pc (14, ox, oa, ob, ol) L st σ = some r) : q_W mt p l e R s m args below meth c Q D cy ad n A k cells slots pc L st σ := by
  replace ho : (q_dc (mt k).2.1 pc (.lstore_n (Fin.ofNat 4 oa)) 1 && decide (((Fin.ofNat 4 oa : Fin 4) : Nat) = oa) && Nat.blt (oa + 1) (mt k).2.2.1) = true := ho
  simp only [Bool.and_eq_true] at ho
  replace h : ((q_pL st).bind fun q => g (pc + 1) (q_s2 L oa (.inr (.inl q.1))) q.2 σ) = some r := h
  obtain ⟨q, e_q, h⟩ := Option.bind_eq_some_iff.mp h
  rw [q_pL_s e_q]
  intro H locs ls hP hS hl hL hst
  exact lv_lstore_n cx.1 cx.2.1 (q_dd ho.1.1) (of_decide_eq_true ho.1.2) hl (Nat.blt_eq.mp ho.2) rfl (fun ls' hl' => hg _ _ _ _ h H locs ls' hP hS (q_s2_has hl') (q_s2_ok hL hst.1) hst.2)
theorem z_15 (cx : q_Cx mt p s m meth c args k D cy n ad A R cells slots) (hg : ∀ pc L st σ, g pc L st σ = some r → q_W mt p l e R s m args below meth c Q D cy ad n A k cells slots pc L st σ) (ho : q_okB mt k pc (15, ox, oa, ob, ol) = true) (h : q_stp n g cal pc (15, ox, oa, ob, ol) L st σ = some r) : q_W mt p l e R s m args below meth c Q D cy ad n A k cells slots pc L st σ := by
  replace ho : (q_dc (mt k).2.1 pc (.lstore oa) 2 && Nat.blt (oa + 1) (mt k).2.2.1) = true := ho
  simp only [Bool.and_eq_true] at ho
  replace h : ((q_pL st).bind fun q => g (pc + 2) (q_s2 L oa (.inr (.inl q.1))) q.2 σ) = some r := h
  obtain ⟨q, e_q, h⟩ := Option.bind_eq_some_iff.mp h
  rw [q_pL_s e_q]
  intro H locs ls hP hS hl hL hst
  exact lv_lstore cx.1 cx.2.1 (q_dd ho.1) hl (Nat.blt_eq.mp ho.2) rfl (fun ls' hl' => hg _ _ _ _ h H locs ls' hP hS (q_s2_has hl') (q_s2_ok hL hst.1) hst.2)
theorem z_16 (cx : q_Cx mt p s m meth c args k D cy n ad A R cells slots) (hg : ∀ pc L st σ, g pc L st σ = some r → q_W mt p l e R s m args below meth c Q D cy ad n A k cells slots pc L st σ) (ho : q_okB mt k pc (16, ox, oa, ob, ol) = true) (h : q_stp n g cal pc (16, ox, oa, ob, ol) L st σ = some r) : q_W mt p l e R s m args below meth c Q D cy ad n A k cells slots pc L st σ := by
  replace ho : (q_dc (mt k).2.1 pc (.astore_n (Fin.ofNat 4 oa)) 1 && decide (((Fin.ofNat 4 oa : Fin 4) : Nat) = oa) && Nat.blt oa (mt k).2.2.1) = true := ho
  simp only [Bool.and_eq_true] at ho
  replace h : ((q_pN st).bind fun q => g (pc + 1) (q_s1 L oa (.inr (.inr q.1))) q.2 σ) = some r := h
  obtain ⟨q, e_q, h⟩ := Option.bind_eq_some_iff.mp h
  rw [q_pN_s e_q]
  intro H locs ls hP hS hl hL hst
  obtain ⟨w1, w2⟩ := q
  cases w1 with
  | none => exact lv_astore_nN cx.1 cx.2.1 (q_dd ho.1.1) (of_decide_eq_true ho.1.2) hl (Nat.blt_eq.mp ho.2) rfl (fun ls' hl' => hg _ _ _ _ h H locs ls' hP hS (q_s1_has hl') (q_s1_ok hL hst.1) hst.2)
  | some q => exact lv_astore_n cx.1 cx.2.1 (q_dd ho.1.1) (of_decide_eq_true ho.1.2) hl (Nat.blt_eq.mp ho.2) rfl (fun ls' hl' => hg _ _ _ _ h H locs ls' hP hS (q_s1_has hl') (q_s1_ok hL hst.1) hst.2)
theorem z_17 (cx : q_Cx mt p s m meth c args k D cy n ad A R cells slots) (hg : ∀ pc L st σ, g pc L st σ = some r → q_W mt p l e R s m args below meth c Q D cy ad n A k cells slots pc L st σ) (ho : q_okB mt k pc (17, ox, oa, ob, ol) = true) (h : q_stp n g cal pc (17, ox, oa, ob, ol) L st σ = some r) : q_W mt p l e R s m args below meth c Q D cy ad n A k cells slots pc L st σ := by
  replace ho : (q_dc (mt k).2.1 pc (.astore oa) 2 && Nat.blt oa (mt k).2.2.1) = true := ho
  simp only [Bool.and_eq_true] at ho
  replace h : ((q_pN st).bind fun q => g (pc + 2) (q_s1 L oa (.inr (.inr q.1))) q.2 σ) = some r := h
  obtain ⟨q, e_q, h⟩ := Option.bind_eq_some_iff.mp h
  rw [q_pN_s e_q]
  intro H locs ls hP hS hl hL hst
  obtain ⟨w1, w2⟩ := q
  cases w1 with
  | none => exact lv_astoreN cx.1 cx.2.1 (q_dd ho.1) hl (Nat.blt_eq.mp ho.2) rfl (fun ls' hl' => hg _ _ _ _ h H locs ls' hP hS (q_s1_has hl') (q_s1_ok hL hst.1) hst.2)
  | some q => exact lv_astore cx.1 cx.2.1 (q_dd ho.1) hl (Nat.blt_eq.mp ho.2) rfl (fun ls' hl' => hg _ _ _ _ h H locs ls' hP hS (q_s1_has hl') (q_s1_ok hL hst.1) hst.2)
theorem z_18 (cx : q_Cx mt p s m meth c args k D cy n ad A R cells slots) (hg : ∀ pc L st σ, g pc L st σ = some r → q_W mt p l e R s m args below meth c Q D cy ad n A k cells slots pc L st σ) (ho : q_okB mt k pc (18, ox, oa, ob, ol) = true) (h : q_stp n g cal pc (18, ox, oa, ob, ol) L st σ = some r) : q_W mt p l e R s m args below meth c Q D cy ad n A k cells slots pc L st σ := by
  replace ho : (q_dc (mt k).2.1 pc (.iinc oa ox) 3 && Nat.blt oa (mt k).2.2.1) = true := ho
  simp only [Bool.and_eq_true] at ho
  replace h : ((L oa).bind fun v => (q_pI [v]).bind fun q => g (pc + 3) (q_s1 L oa (.inl (q.1 + Int32.ofInt ox))) st σ) = some r := h
  obtain ⟨v, e_v, h⟩ := Option.bind_eq_some_iff.mp h
  obtain ⟨q, e_q, h⟩ := Option.bind_eq_some_iff.mp h
  have e_1 := (List.cons.inj (q_pI_s e_q)).1
  intro H locs ls hP hS hl hL hst
  rw [e_1] at e_v
  have h2 : (oa, Value.int q.1) ∈ q_ll ad (mt k).2.2.1 L := q_ll_in (Nat.blt_eq.mp ho.2) e_v
  obtain ⟨j, hj⟩ := List.getElem?_of_mem h2
  exact lv_iinc (k := j) cx.1 cx.2.1 (q_dd ho.1) hl hj rfl (Nat.blt_eq.mp ho.2) rfl (fun ls' hl' => hg _ _ _ _ h H locs ls' hP hS (q_s1_has (v := .inl (q.1 + Int32.ofInt ox)) hl') (q_s1_ok hL rfl) hst)
theorem z_19 (cx : q_Cx mt p s m meth c args k D cy n ad A R cells slots) (hg : ∀ pc L st σ, g pc L st σ = some r → q_W mt p l e R s m args below meth c Q D cy ad n A k cells slots pc L st σ) (ho : q_okB mt k pc (19, ox, oa, ob, ol) = true) (h : q_stp n g cal pc (19, ox, oa, ob, ol) L st σ = some r) : q_W mt p l e R s m args below meth c Q D cy ad n A k cells slots pc L st σ := by
  replace ho : q_dc (mt k).2.1 pc .iadd 1 = true := ho
  replace h : ((q_pI st).bind fun y => (q_pI y.2).bind fun x => g (pc + 1) L (.inl (x.1 + y.1) :: x.2) σ) = some r := h
  obtain ⟨y, e_y, h⟩ := Option.bind_eq_some_iff.mp h
  obtain ⟨x, e_x, h⟩ := Option.bind_eq_some_iff.mp h
  rw [q_pI_s e_y, q_pI_s e_x]
  intro H locs ls hP hS hl hL hst
  exact lv_iadd cx.1 cx.2.1 (q_dd ho) (hg _ _ _ _ h H locs ls hP hS hl hL ⟨rfl, hst.2.2⟩)
theorem z_20 (cx : q_Cx mt p s m meth c args k D cy n ad A R cells slots) (hg : ∀ pc L st σ, g pc L st σ = some r → q_W mt p l e R s m args below meth c Q D cy ad n A k cells slots pc L st σ) (ho : q_okB mt k pc (20, ox, oa, ob, ol) = true) (h : q_stp n g cal pc (20, ox, oa, ob, ol) L st σ = some r) : q_W mt p l e R s m args below meth c Q D cy ad n A k cells slots pc L st σ := by
  replace ho : q_dc (mt k).2.1 pc .isub 1 = true := ho
  replace h : ((q_pI st).bind fun y => (q_pI y.2).bind fun x => g (pc + 1) L (.inl (x.1 - y.1) :: x.2) σ) = some r := h
  obtain ⟨y, e_y, h⟩ := Option.bind_eq_some_iff.mp h
  obtain ⟨x, e_x, h⟩ := Option.bind_eq_some_iff.mp h
  rw [q_pI_s e_y, q_pI_s e_x]
  intro H locs ls hP hS hl hL hst
  exact lv_isub cx.1 cx.2.1 (q_dd ho) (hg _ _ _ _ h H locs ls hP hS hl hL ⟨rfl, hst.2.2⟩)
theorem z_21 (cx : q_Cx mt p s m meth c args k D cy n ad A R cells slots) (hg : ∀ pc L st σ, g pc L st σ = some r → q_W mt p l e R s m args below meth c Q D cy ad n A k cells slots pc L st σ) (ho : q_okB mt k pc (21, ox, oa, ob, ol) = true) (h : q_stp n g cal pc (21, ox, oa, ob, ol) L st σ = some r) : q_W mt p l e R s m args below meth c Q D cy ad n A k cells slots pc L st σ := by
  replace ho : q_dc (mt k).2.1 pc .imul 1 = true := ho
  replace h : ((q_pI st).bind fun y => (q_pI y.2).bind fun x => g (pc + 1) L (.inl (x.1 * y.1) :: x.2) σ) = some r := h
  obtain ⟨y, e_y, h⟩ := Option.bind_eq_some_iff.mp h
  obtain ⟨x, e_x, h⟩ := Option.bind_eq_some_iff.mp h
  rw [q_pI_s e_y, q_pI_s e_x]
  intro H locs ls hP hS hl hL hst
  exact lv_imul cx.1 cx.2.1 (q_dd ho) (hg _ _ _ _ h H locs ls hP hS hl hL ⟨rfl, hst.2.2⟩)
theorem z_23 (cx : q_Cx mt p s m meth c args k D cy n ad A R cells slots) (hg : ∀ pc L st σ, g pc L st σ = some r → q_W mt p l e R s m args below meth c Q D cy ad n A k cells slots pc L st σ) (ho : q_okB mt k pc (23, ox, oa, ob, ol) = true) (h : q_stp n g cal pc (23, ox, oa, ob, ol) L st σ = some r) : q_W mt p l e R s m args below meth c Q D cy ad n A k cells slots pc L st σ := by
  replace ho : q_dc (mt k).2.1 pc .iand 1 = true := ho
  replace h : ((q_pI st).bind fun y => (q_pI y.2).bind fun x => g (pc + 1) L (.inl (x.1 &&& y.1) :: x.2) σ) = some r := h
  obtain ⟨y, e_y, h⟩ := Option.bind_eq_some_iff.mp h
  obtain ⟨x, e_x, h⟩ := Option.bind_eq_some_iff.mp h
  rw [q_pI_s e_y, q_pI_s e_x]
  intro H locs ls hP hS hl hL hst
  exact lv_iand cx.1 cx.2.1 (q_dd ho) (hg _ _ _ _ h H locs ls hP hS hl hL ⟨rfl, hst.2.2⟩)
theorem z_24 (cx : q_Cx mt p s m meth c args k D cy n ad A R cells slots) (hg : ∀ pc L st σ, g pc L st σ = some r → q_W mt p l e R s m args below meth c Q D cy ad n A k cells slots pc L st σ) (ho : q_okB mt k pc (24, ox, oa, ob, ol) = true) (h : q_stp n g cal pc (24, ox, oa, ob, ol) L st σ = some r) : q_W mt p l e R s m args below meth c Q D cy ad n A k cells slots pc L st σ := by
  replace ho : q_dc (mt k).2.1 pc .ior 1 = true := ho
  replace h : ((q_pI st).bind fun y => (q_pI y.2).bind fun x => g (pc + 1) L (.inl (x.1 ||| y.1) :: x.2) σ) = some r := h
  obtain ⟨y, e_y, h⟩ := Option.bind_eq_some_iff.mp h
  obtain ⟨x, e_x, h⟩ := Option.bind_eq_some_iff.mp h
  rw [q_pI_s e_y, q_pI_s e_x]
  intro H locs ls hP hS hl hL hst
  exact lv_ior cx.1 cx.2.1 (q_dd ho) (hg _ _ _ _ h H locs ls hP hS hl hL ⟨rfl, hst.2.2⟩)
theorem z_25 (cx : q_Cx mt p s m meth c args k D cy n ad A R cells slots) (hg : ∀ pc L st σ, g pc L st σ = some r → q_W mt p l e R s m args below meth c Q D cy ad n A k cells slots pc L st σ) (ho : q_okB mt k pc (25, ox, oa, ob, ol) = true) (h : q_stp n g cal pc (25, ox, oa, ob, ol) L st σ = some r) : q_W mt p l e R s m args below meth c Q D cy ad n A k cells slots pc L st σ := by
  replace ho : q_dc (mt k).2.1 pc .ishl 1 = true := ho
  replace h : ((q_pI st).bind fun y => (q_pI y.2).bind fun x => g (pc + 1) L (.inl (x.1 <<< (y.1 &&& 31)) :: x.2) σ) = some r := h
  obtain ⟨y, e_y, h⟩ := Option.bind_eq_some_iff.mp h
  obtain ⟨x, e_x, h⟩ := Option.bind_eq_some_iff.mp h
  rw [q_pI_s e_y, q_pI_s e_x]
  intro H locs ls hP hS hl hL hst
  exact lv_ishl cx.1 cx.2.1 (q_dd ho) (hg _ _ _ _ h H locs ls hP hS hl hL ⟨rfl, hst.2.2⟩)
theorem z_26 (cx : q_Cx mt p s m meth c args k D cy n ad A R cells slots) (hg : ∀ pc L st σ, g pc L st σ = some r → q_W mt p l e R s m args below meth c Q D cy ad n A k cells slots pc L st σ) (ho : q_okB mt k pc (26, ox, oa, ob, ol) = true) (h : q_stp n g cal pc (26, ox, oa, ob, ol) L st σ = some r) : q_W mt p l e R s m args below meth c Q D cy ad n A k cells slots pc L st σ := by
  replace ho : q_dc (mt k).2.1 pc .ishr 1 = true := ho
  replace h : ((q_pI st).bind fun y => (q_pI y.2).bind fun x => g (pc + 1) L (.inl (x.1 >>> (y.1 &&& 31)) :: x.2) σ) = some r := h
  obtain ⟨y, e_y, h⟩ := Option.bind_eq_some_iff.mp h
  obtain ⟨x, e_x, h⟩ := Option.bind_eq_some_iff.mp h
  rw [q_pI_s e_y, q_pI_s e_x]
  intro H locs ls hP hS hl hL hst
  exact lv_ishr cx.1 cx.2.1 (q_dd ho) (hg _ _ _ _ h H locs ls hP hS hl hL ⟨rfl, hst.2.2⟩)
theorem z_22 (cx : q_Cx mt p s m meth c args k D cy n ad A R cells slots) (hg : ∀ pc L st σ, g pc L st σ = some r → q_W mt p l e R s m args below meth c Q D cy ad n A k cells slots pc L st σ) (ho : q_okB mt k pc (22, ox, oa, ob, ol) = true) (h : q_stp n g cal pc (22, ox, oa, ob, ol) L st σ = some r) : q_W mt p l e R s m args below meth c Q D cy ad n A k cells slots pc L st σ := by
  replace ho : q_dc (mt k).2.1 pc .irem 1 = true := ho
  replace h : ((q_pI st).bind fun y => (q_pI y.2).bind fun x => if y.1 = 0 then none else g (pc + 1) L (.inl (x.1 - x.1 / y.1 * y.1) :: x.2) σ) = some r := h
  obtain ⟨y, e_y, h⟩ := Option.bind_eq_some_iff.mp h
  obtain ⟨x, e_x, h⟩ := Option.bind_eq_some_iff.mp h
  rw [q_pI_s e_y, q_pI_s e_x]
  by_cases hz : y.1 = 0
  · rw [if_pos hz] at h
    cases h
  rw [if_neg hz] at h
  intro H locs ls hP hS hl hL hst
  exact lv_irem cx.1 cx.2.1 (q_dd ho) hz (hg _ _ _ _ h H locs ls hP hS hl hL ⟨rfl, hst.2.2⟩)
theorem z_27 (cx : q_Cx mt p s m meth c args k D cy n ad A R cells slots) (hg : ∀ pc L st σ, g pc L st σ = some r → q_W mt p l e R s m args below meth c Q D cy ad n A k cells slots pc L st σ) (ho : q_okB mt k pc (27, ox, oa, ob, ol) = true) (h : q_stp n g cal pc (27, ox, oa, ob, ol) L st σ = some r) : q_W mt p l e R s m args below meth c Q D cy ad n A k cells slots pc L st σ := by
  replace ho : q_dc (mt k).2.1 pc .ladd 1 = true := ho
  replace h : ((q_pL st).bind fun y => (q_pL y.2).bind fun x => g (pc + 1) L (.inr (.inl (x.1 + y.1)) :: x.2) σ) = some r := h
  obtain ⟨y, e_y, h⟩ := Option.bind_eq_some_iff.mp h
  obtain ⟨x, e_x, h⟩ := Option.bind_eq_some_iff.mp h
  rw [q_pL_s e_y, q_pL_s e_x]
  intro H locs ls hP hS hl hL hst
  exact lv_ladd cx.1 cx.2.1 (q_dd ho) (hg _ _ _ _ h H locs ls hP hS hl hL ⟨rfl, hst.2.2⟩)
theorem z_28 (cx : q_Cx mt p s m meth c args k D cy n ad A R cells slots) (hg : ∀ pc L st σ, g pc L st σ = some r → q_W mt p l e R s m args below meth c Q D cy ad n A k cells slots pc L st σ) (ho : q_okB mt k pc (28, ox, oa, ob, ol) = true) (h : q_stp n g cal pc (28, ox, oa, ob, ol) L st σ = some r) : q_W mt p l e R s m args below meth c Q D cy ad n A k cells slots pc L st σ := by
  replace ho : q_dc (mt k).2.1 pc .land 1 = true := ho
  replace h : ((q_pL st).bind fun y => (q_pL y.2).bind fun x => g (pc + 1) L (.inr (.inl (x.1 &&& y.1)) :: x.2) σ) = some r := h
  obtain ⟨y, e_y, h⟩ := Option.bind_eq_some_iff.mp h
  obtain ⟨x, e_x, h⟩ := Option.bind_eq_some_iff.mp h
  rw [q_pL_s e_y, q_pL_s e_x]
  intro H locs ls hP hS hl hL hst
  exact lv_land cx.1 cx.2.1 (q_dd ho) (hg _ _ _ _ h H locs ls hP hS hl hL ⟨rfl, hst.2.2⟩)
theorem z_29 (cx : q_Cx mt p s m meth c args k D cy n ad A R cells slots) (hg : ∀ pc L st σ, g pc L st σ = some r → q_W mt p l e R s m args below meth c Q D cy ad n A k cells slots pc L st σ) (ho : q_okB mt k pc (29, ox, oa, ob, ol) = true) (h : q_stp n g cal pc (29, ox, oa, ob, ol) L st σ = some r) : q_W mt p l e R s m args below meth c Q D cy ad n A k cells slots pc L st σ := by
  replace ho : q_dc (mt k).2.1 pc .lor 1 = true := ho
  replace h : ((q_pL st).bind fun y => (q_pL y.2).bind fun x => g (pc + 1) L (.inr (.inl (x.1 ||| y.1)) :: x.2) σ) = some r := h
  obtain ⟨y, e_y, h⟩ := Option.bind_eq_some_iff.mp h
  obtain ⟨x, e_x, h⟩ := Option.bind_eq_some_iff.mp h
  rw [q_pL_s e_y, q_pL_s e_x]
  intro H locs ls hP hS hl hL hst
  exact lv_lor cx.1 cx.2.1 (q_dd ho) (hg _ _ _ _ h H locs ls hP hS hl hL ⟨rfl, hst.2.2⟩)
theorem z_30 (cx : q_Cx mt p s m meth c args k D cy n ad A R cells slots) (hg : ∀ pc L st σ, g pc L st σ = some r → q_W mt p l e R s m args below meth c Q D cy ad n A k cells slots pc L st σ) (ho : q_okB mt k pc (30, ox, oa, ob, ol) = true) (h : q_stp n g cal pc (30, ox, oa, ob, ol) L st σ = some r) : q_W mt p l e R s m args below meth c Q D cy ad n A k cells slots pc L st σ := by
  replace ho : q_dc (mt k).2.1 pc .lshl 1 = true := ho
  replace h : ((q_pI st).bind fun y => (q_pL y.2).bind fun x => g (pc + 1) L (.inr (.inl (x.1 <<< (y.1.toInt64 &&& 63))) :: x.2) σ) = some r := h
  obtain ⟨y, e_y, h⟩ := Option.bind_eq_some_iff.mp h
  obtain ⟨x, e_x, h⟩ := Option.bind_eq_some_iff.mp h
  rw [q_pI_s e_y, q_pL_s e_x]
  intro H locs ls hP hS hl hL hst
  exact lv_lshl cx.1 cx.2.1 (q_dd ho) rfl (hg _ _ _ _ h H locs ls hP hS hl hL ⟨rfl, hst.2.2⟩)
theorem z_31 (cx : q_Cx mt p s m meth c args k D cy n ad A R cells slots) (hg : ∀ pc L st σ, g pc L st σ = some r → q_W mt p l e R s m args below meth c Q D cy ad n A k cells slots pc L st σ) (ho : q_okB mt k pc (31, ox, oa, ob, ol) = true) (h : q_stp n g cal pc (31, ox, oa, ob, ol) L st σ = some r) : q_W mt p l e R s m args below meth c Q D cy ad n A k cells slots pc L st σ := by
  replace ho : q_dc (mt k).2.1 pc .lshr 1 = true := ho
  replace h : ((q_pI st).bind fun y => (q_pL y.2).bind fun x => g (pc + 1) L (.inr (.inl (x.1 >>> (y.1.toInt64 &&& 63))) :: x.2) σ) = some r := h
  obtain ⟨y, e_y, h⟩ := Option.bind_eq_some_iff.mp h
  obtain ⟨x, e_x, h⟩ := Option.bind_eq_some_iff.mp h
  rw [q_pI_s e_y, q_pL_s e_x]
  intro H locs ls hP hS hl hL hst
  exact lv_lshr cx.1 cx.2.1 (q_dd ho) rfl (hg _ _ _ _ h H locs ls hP hS hl hL ⟨rfl, hst.2.2⟩)
theorem z_32 (cx : q_Cx mt p s m meth c args k D cy n ad A R cells slots) (hg : ∀ pc L st σ, g pc L st σ = some r → q_W mt p l e R s m args below meth c Q D cy ad n A k cells slots pc L st σ) (ho : q_okB mt k pc (32, ox, oa, ob, ol) = true) (h : q_stp n g cal pc (32, ox, oa, ob, ol) L st σ = some r) : q_W mt p l e R s m args below meth c Q D cy ad n A k cells slots pc L st σ := by
  replace ho : q_dc (mt k).2.1 pc .lushr 1 = true := ho
  replace h : ((q_pI st).bind fun y => (q_pL y.2).bind fun x => g (pc + 1) L (.inr (.inl ((x.1.toUInt64 >>> (y.1.toInt64.toUInt64 &&& Int64.toUInt64 63)).toInt64)) :: x.2) σ) = some r := h
  obtain ⟨y, e_y, h⟩ := Option.bind_eq_some_iff.mp h
  obtain ⟨x, e_x, h⟩ := Option.bind_eq_some_iff.mp h
  rw [q_pI_s e_y, q_pL_s e_x]
  intro H locs ls hP hS hl hL hst
  exact lv_lushr cx.1 cx.2.1 (q_dd ho) rfl (hg _ _ _ _ h H locs ls hP hS hl hL ⟨rfl, hst.2.2⟩)
theorem z_33 (cx : q_Cx mt p s m meth c args k D cy n ad A R cells slots) (hg : ∀ pc L st σ, g pc L st σ = some r → q_W mt p l e R s m args below meth c Q D cy ad n A k cells slots pc L st σ) (ho : q_okB mt k pc (33, ox, oa, ob, ol) = true) (h : q_stp n g cal pc (33, ox, oa, ob, ol) L st σ = some r) : q_W mt p l e R s m args below meth c Q D cy ad n A k cells slots pc L st σ := by
  replace ho : q_dc (mt k).2.1 pc .i2l 1 = true := ho
  replace h : ((q_pI st).bind fun x => g (pc + 1) L (.inr (.inl x.1.toInt64) :: x.2) σ) = some r := h
  obtain ⟨x, e_x, h⟩ := Option.bind_eq_some_iff.mp h
  rw [q_pI_s e_x]
  intro H locs ls hP hS hl hL hst
  exact lv_i2l cx.1 cx.2.1 (q_dd ho) rfl (hg _ _ _ _ h H locs ls hP hS hl hL ⟨rfl, hst.2⟩)
theorem z_34 (cx : q_Cx mt p s m meth c args k D cy n ad A R cells slots) (hg : ∀ pc L st σ, g pc L st σ = some r → q_W mt p l e R s m args below meth c Q D cy ad n A k cells slots pc L st σ) (ho : q_okB mt k pc (34, ox, oa, ob, ol) = true) (h : q_stp n g cal pc (34, ox, oa, ob, ol) L st σ = some r) : q_W mt p l e R s m args below meth c Q D cy ad n A k cells slots pc L st σ := by
  replace ho : q_dc (mt k).2.1 pc .l2i 1 = true := ho
  replace h : ((q_pL st).bind fun x => g (pc + 1) L (.inl x.1.toInt32 :: x.2) σ) = some r := h
  obtain ⟨x, e_x, h⟩ := Option.bind_eq_some_iff.mp h
  rw [q_pL_s e_x]
  intro H locs ls hP hS hl hL hst
  exact lv_l2i cx.1 cx.2.1 (q_dd ho) rfl (hg _ _ _ _ h H locs ls hP hS hl hL ⟨rfl, hst.2⟩)
theorem z_35 (cx : q_Cx mt p s m meth c args k D cy n ad A R cells slots) (hg : ∀ pc L st σ, g pc L st σ = some r → q_W mt p l e R s m args below meth c Q D cy ad n A k cells slots pc L st σ) (ho : q_okB mt k pc (35, ox, oa, ob, ol) = true) (h : q_stp n g cal pc (35, ox, oa, ob, ol) L st σ = some r) : q_W mt p l e R s m args below meth c Q D cy ad n A k cells slots pc L st σ := by
  replace ho : q_dc (mt k).2.1 pc .lcmp 1 = true := ho
  replace h : ((q_pL st).bind fun y => (q_pL y.2).bind fun x => g (pc + 1) L (.inl (lg_cmp x.1 y.1) :: x.2) σ) = some r := h
  obtain ⟨y, e_y, h⟩ := Option.bind_eq_some_iff.mp h
  obtain ⟨x, e_x, h⟩ := Option.bind_eq_some_iff.mp h
  rw [q_pL_s e_y, q_pL_s e_x]
  intro H locs ls hP hS hl hL hst
  exact W.lcmp cx.1 cx.2.1 (q_dd ho) (hg _ _ _ _ h H locs ls hP hS hl hL ⟨rfl, hst.2.2⟩)
theorem z_36 (cx : q_Cx mt p s m meth c args k D cy n ad A R cells slots) (hg : ∀ pc L st σ, g pc L st σ = some r → q_W mt p l e R s m args below meth c Q D cy ad n A k cells slots pc L st σ) (ho : q_okB mt k pc (36, ox, oa, ob, ol) = true) (h : q_stp n g cal pc (36, ox, oa, ob, ol) L st σ = some r) : q_W mt p l e R s m args below meth c Q D cy ad n A k cells slots pc L st σ := by
  replace ho : q_dc (mt k).2.1 pc .dup 1 = true := ho
  replace h : ((q_p1 st).bind fun x => g (pc + 1) L (x.1 :: x.1 :: x.2) σ) = some r := h
  obtain ⟨x, e_x, h⟩ := Option.bind_eq_some_iff.mp h
  rw [q_p1_s e_x]
  intro H locs ls hP hS hl hL hst
  exact lv_dup cx.1 cx.2.1 (q_dd ho) (q_p1_c e_x) (hg _ _ _ _ h H locs ls hP hS hl hL ⟨hst.1, hst⟩)
theorem z_37 (cx : q_Cx mt p s m meth c args k D cy n ad A R cells slots) (hg : ∀ pc L st σ, g pc L st σ = some r → q_W mt p l e R s m args below meth c Q D cy ad n A k cells slots pc L st σ) (ho : q_okB mt k pc (37, ox, oa, ob, ol) = true) (h : q_stp n g cal pc (37, ox, oa, ob, ol) L st σ = some r) : q_W mt p l e R s m args below meth c Q D cy ad n A k cells slots pc L st σ := by
  replace ho : q_dc (mt k).2.1 pc .pop 1 = true := ho
  replace h : ((q_p1 st).bind fun x => g (pc + 1) L x.2 σ) = some r := h
  obtain ⟨x, e_x, h⟩ := Option.bind_eq_some_iff.mp h
  rw [q_p1_s e_x]
  intro H locs ls hP hS hl hL hst
  exact lv_pop cx.1 cx.2.1 (q_dd ho) (q_p1_c e_x) (hg _ _ _ _ h H locs ls hP hS hl hL hst.2)
theorem z_38 (cx : q_Cx mt p s m meth c args k D cy n ad A R cells slots) (hg : ∀ pc L st σ, g pc L st σ = some r → q_W mt p l e R s m args below meth c Q D cy ad n A k cells slots pc L st σ) (ho : q_okB mt k pc (38, ox, oa, ob, ol) = true) (h : q_stp n g cal pc (38, ox, oa, ob, ol) L st σ = some r) : q_W mt p l e R s m args below meth c Q D cy ad n A k cells slots pc L st σ := by
  replace ho : q_dc (mt k).2.1 pc .dup2 1 = true := ho
  replace h : ((q_p1 st).bind fun x => (q_p1 x.2).bind fun y => g (pc + 1) L (x.1 :: y.1 :: x.1 :: y.1 :: y.2) σ) = some r := h
  obtain ⟨x, e_x, h⟩ := Option.bind_eq_some_iff.mp h
  obtain ⟨y, e_y, h⟩ := Option.bind_eq_some_iff.mp h
  rw [q_p1_s e_x, q_p1_s e_y]
  intro H locs ls hP hS hl hL hst
  exact lv_dup2_11 cx.1 cx.2.1 (q_dd ho) (q_p1_c e_x) (q_p1_c e_y) (hg _ _ _ _ h H locs ls hP hS hl hL ⟨hst.1, hst.2.1, hst⟩)
theorem z_39 (cx : q_Cx mt p s m meth c args k D cy n ad A R cells slots) (hg : ∀ pc L st σ, g pc L st σ = some r → q_W mt p l e R s m args below meth c Q D cy ad n A k cells slots pc L st σ) (ho : q_okB mt k pc (39, ox, oa, ob, ol) = true) (h : q_stp n g cal pc (39, ox, oa, ob, ol) L st σ = some r) : q_W mt p l e R s m args below meth c Q D cy ad n A k cells slots pc L st σ := by
  replace ho : q_dc (mt k).2.1 pc .aconst_null 1 = true := ho
  replace h : (g (pc + 1) L (.inr (.inr none) :: st) σ) = some r := h
  intro H locs ls hP hS hl hL hst
  exact lv_null cx.1 cx.2.1 (q_dd ho) (hg _ _ _ _ h H locs ls hP hS hl hL ⟨rfl, hst⟩)
theorem z_40 (cx : q_Cx mt p s m meth c args k D cy n ad A R cells slots) (hg : ∀ pc L st σ, g pc L st σ = some r → q_W mt p l e R s m args below meth c Q D cy ad n A k cells slots pc L st σ) (ho : q_okB mt k pc (40, ox, oa, ob, ol) = true) (h : q_stp n g cal pc (40, ox, oa, ob, ol) L st σ = some r) : q_W mt p l e R s m args below meth c Q D cy ad n A k cells slots pc L st σ := by
  replace ho : (q_dc (mt k).2.1 pc (.ifnull ox) 3 && q_tg pc ox oa) = true := ho
  simp only [Bool.and_eq_true] at ho
  replace h : ((q_pN st).bind fun x => match x.1 with
    | none => g oa L x.2 σ
    | some _ => g (pc + 3) L x.2 σ) = some r := h
  obtain ⟨x, e_x, h⟩ := Option.bind_eq_some_iff.mp h
  rw [q_pN_s e_x]
  obtain ⟨x1, x2⟩ := x
  intro H locs ls hP hS hl hL hst
  have ht := of_decide_eq_true ho.2
  cases x1 with
  | none => exact lv_ifnullN cx.1 cx.2.1 (q_dd ho.1) ht (hg _ _ _ _ h H locs ls hP hS hl hL hst.2)
  | some q => exact lv_ifnull cx.1 cx.2.1 (q_dd ho.1) (hg _ _ _ _ h H locs ls hP hS hl hL hst.2)
theorem z_41 (cx : q_Cx mt p s m meth c args k D cy n ad A R cells slots) (hg : ∀ pc L st σ, g pc L st σ = some r → q_W mt p l e R s m args below meth c Q D cy ad n A k cells slots pc L st σ) (ho : q_okB mt k pc (41, ox, oa, ob, ol) = true) (h : q_stp n g cal pc (41, ox, oa, ob, ol) L st σ = some r) : q_W mt p l e R s m args below meth c Q D cy ad n A k cells slots pc L st σ := by
  replace ho : (q_dc (mt k).2.1 pc (.ifnonnull ox) 3 && q_tg pc ox oa) = true := ho
  simp only [Bool.and_eq_true] at ho
  replace h : ((q_pN st).bind fun x => match x.1 with
    | none => g (pc + 3) L x.2 σ
    | some _ => g oa L x.2 σ) = some r := h
  obtain ⟨x, e_x, h⟩ := Option.bind_eq_some_iff.mp h
  rw [q_pN_s e_x]
  obtain ⟨x1, x2⟩ := x
  intro H locs ls hP hS hl hL hst
  have ht := of_decide_eq_true ho.2
  cases x1 with
  | none => exact lv_ifnonnullN cx.1 cx.2.1 (q_dd ho.1) (hg _ _ _ _ h H locs ls hP hS hl hL hst.2)
  | some q => exact lv_ifnonnull cx.1 cx.2.1 (q_dd ho.1) ht (hg _ _ _ _ h H locs ls hP hS hl hL hst.2)
theorem z_42 (cx : q_Cx mt p s m meth c args k D cy n ad A R cells slots) (hg : ∀ pc L st σ, g pc L st σ = some r → q_W mt p l e R s m args below meth c Q D cy ad n A k cells slots pc L st σ) (ho : q_okB mt k pc (42, ox, oa, ob, ol) = true) (h : q_stp n g cal pc (42, ox, oa, ob, ol) L st σ = some r) : q_W mt p l e R s m args below meth c Q D cy ad n A k cells slots pc L st σ := by
  replace ho : (q_dc (mt k).2.1 pc (.goto ox) 3 && q_tg pc ox oa) = true := ho
  simp only [Bool.and_eq_true] at ho
  replace h : g oa L st σ = some r := h
  intro H locs ls hP hS hl hL hst
  exact lv_goto cx.1 cx.2.1 (q_dd ho.1) (of_decide_eq_true ho.2) (hg _ _ _ _ h H locs ls hP hS hl hL hst)
theorem z_43 (cx : q_Cx mt p s m meth c args k D cy n ad A R cells slots) (hg : ∀ pc L st σ, g pc L st σ = some r → q_W mt p l e R s m args below meth c Q D cy ad n A k cells slots pc L st σ) (ho : q_okB mt k pc (43, ox, oa, ob, ol) = true) (h : q_stp n g cal pc (43, ox, oa, ob, ol) L st σ = some r) : q_W mt p l e R s m args below meth c Q D cy ad n A k cells slots pc L st σ := by
  replace ho : (q_dc (mt k).2.1 pc (.ifCond .eq ox) 3 && q_tg pc ox oa) = true := ho
  simp only [Bool.and_eq_true] at ho
  replace h : ((q_pI st).bind fun x => if x.1 = 0 then g oa L x.2 σ else g (pc + 3) L x.2 σ) = some r := h
  obtain ⟨x, e_x, h⟩ := Option.bind_eq_some_iff.mp h
  rw [q_pI_s e_x]
  intro H locs ls hP hS hl hL hst
  exact lv_if_eq cx.1 cx.2.1 (q_dd ho.1) (of_decide_eq_true ho.2) (fun hc => hg _ _ _ _ ((if_pos hc).symm.trans h) H locs ls hP hS hl hL hst.2) (fun hc => hg _ _ _ _ ((if_neg hc).symm.trans h) H locs ls hP hS hl hL hst.2)
theorem z_44 (cx : q_Cx mt p s m meth c args k D cy n ad A R cells slots) (hg : ∀ pc L st σ, g pc L st σ = some r → q_W mt p l e R s m args below meth c Q D cy ad n A k cells slots pc L st σ) (ho : q_okB mt k pc (44, ox, oa, ob, ol) = true) (h : q_stp n g cal pc (44, ox, oa, ob, ol) L st σ = some r) : q_W mt p l e R s m args below meth c Q D cy ad n A k cells slots pc L st σ := by
  replace ho : (q_dc (mt k).2.1 pc (.ifCond .ne ox) 3 && q_tg pc ox oa) = true := ho
  simp only [Bool.and_eq_true] at ho
  replace h : ((q_pI st).bind fun x => if x.1 = 0 then g (pc + 3) L x.2 σ else g oa L x.2 σ) = some r := h
  obtain ⟨x, e_x, h⟩ := Option.bind_eq_some_iff.mp h
  rw [q_pI_s e_x]
  intro H locs ls hP hS hl hL hst
  exact lv_if_ne cx.1 cx.2.1 (q_dd ho.1) (of_decide_eq_true ho.2) (fun hc => hg _ _ _ _ ((if_neg hc).symm.trans h) H locs ls hP hS hl hL hst.2) (fun hc => hg _ _ _ _ ((if_pos hc).symm.trans h) H locs ls hP hS hl hL hst.2)
theorem z_45 (cx : q_Cx mt p s m meth c args k D cy n ad A R cells slots) (hg : ∀ pc L st σ, g pc L st σ = some r → q_W mt p l e R s m args below meth c Q D cy ad n A k cells slots pc L st σ) (ho : q_okB mt k pc (45, ox, oa, ob, ol) = true) (h : q_stp n g cal pc (45, ox, oa, ob, ol) L st σ = some r) : q_W mt p l e R s m args below meth c Q D cy ad n A k cells slots pc L st σ := by
  replace ho : (q_dc (mt k).2.1 pc (.ifCond .lt ox) 3 && q_tg pc ox oa) = true := ho
  simp only [Bool.and_eq_true] at ho
  replace h : ((q_pI st).bind fun x => if x.1 < 0 then g oa L x.2 σ else g (pc + 3) L x.2 σ) = some r := h
  obtain ⟨x, e_x, h⟩ := Option.bind_eq_some_iff.mp h
  rw [q_pI_s e_x]
  intro H locs ls hP hS hl hL hst
  exact lv_if_lt cx.1 cx.2.1 (q_dd ho.1) (of_decide_eq_true ho.2) (fun hc => hg _ _ _ _ ((if_pos hc).symm.trans h) H locs ls hP hS hl hL hst.2) (fun hc => hg _ _ _ _ ((if_neg hc).symm.trans h) H locs ls hP hS hl hL hst.2)
theorem z_46 (cx : q_Cx mt p s m meth c args k D cy n ad A R cells slots) (hg : ∀ pc L st σ, g pc L st σ = some r → q_W mt p l e R s m args below meth c Q D cy ad n A k cells slots pc L st σ) (ho : q_okB mt k pc (46, ox, oa, ob, ol) = true) (h : q_stp n g cal pc (46, ox, oa, ob, ol) L st σ = some r) : q_W mt p l e R s m args below meth c Q D cy ad n A k cells slots pc L st σ := by
  replace ho : (q_dc (mt k).2.1 pc (.ifCond .ge ox) 3 && q_tg pc ox oa) = true := ho
  simp only [Bool.and_eq_true] at ho
  replace h : ((q_pI st).bind fun x => if 0 ≤ x.1 then g oa L x.2 σ else g (pc + 3) L x.2 σ) = some r := h
  obtain ⟨x, e_x, h⟩ := Option.bind_eq_some_iff.mp h
  rw [q_pI_s e_x]
  intro H locs ls hP hS hl hL hst
  exact lv_if_ge cx.1 cx.2.1 (q_dd ho.1) (of_decide_eq_true ho.2) (fun hc => hg _ _ _ _ ((if_pos hc).symm.trans h) H locs ls hP hS hl hL hst.2) (fun hc => hg _ _ _ _ ((if_neg hc).symm.trans h) H locs ls hP hS hl hL hst.2)
theorem z_47 (cx : q_Cx mt p s m meth c args k D cy n ad A R cells slots) (hg : ∀ pc L st σ, g pc L st σ = some r → q_W mt p l e R s m args below meth c Q D cy ad n A k cells slots pc L st σ) (ho : q_okB mt k pc (47, ox, oa, ob, ol) = true) (h : q_stp n g cal pc (47, ox, oa, ob, ol) L st σ = some r) : q_W mt p l e R s m args below meth c Q D cy ad n A k cells slots pc L st σ := by
  replace ho : (q_dc (mt k).2.1 pc (.ifCond .gt ox) 3 && q_tg pc ox oa) = true := ho
  simp only [Bool.and_eq_true] at ho
  replace h : ((q_pI st).bind fun x => if 0 < x.1 then g oa L x.2 σ else g (pc + 3) L x.2 σ) = some r := h
  obtain ⟨x, e_x, h⟩ := Option.bind_eq_some_iff.mp h
  rw [q_pI_s e_x]
  intro H locs ls hP hS hl hL hst
  exact lv_if_gt cx.1 cx.2.1 (q_dd ho.1) (of_decide_eq_true ho.2) (fun hc => hg _ _ _ _ ((if_pos hc).symm.trans h) H locs ls hP hS hl hL hst.2) (fun hc => hg _ _ _ _ ((if_neg hc).symm.trans h) H locs ls hP hS hl hL hst.2)
theorem z_48 (cx : q_Cx mt p s m meth c args k D cy n ad A R cells slots) (hg : ∀ pc L st σ, g pc L st σ = some r → q_W mt p l e R s m args below meth c Q D cy ad n A k cells slots pc L st σ) (ho : q_okB mt k pc (48, ox, oa, ob, ol) = true) (h : q_stp n g cal pc (48, ox, oa, ob, ol) L st σ = some r) : q_W mt p l e R s m args below meth c Q D cy ad n A k cells slots pc L st σ := by
  replace ho : (q_dc (mt k).2.1 pc (.ifCond .le ox) 3 && q_tg pc ox oa) = true := ho
  simp only [Bool.and_eq_true] at ho
  replace h : ((q_pI st).bind fun x => if x.1 ≤ 0 then g oa L x.2 σ else g (pc + 3) L x.2 σ) = some r := h
  obtain ⟨x, e_x, h⟩ := Option.bind_eq_some_iff.mp h
  rw [q_pI_s e_x]
  intro H locs ls hP hS hl hL hst
  exact lv_if_le cx.1 cx.2.1 (q_dd ho.1) (of_decide_eq_true ho.2) (fun hc => hg _ _ _ _ ((if_pos hc).symm.trans h) H locs ls hP hS hl hL hst.2) (fun hc => hg _ _ _ _ ((if_neg hc).symm.trans h) H locs ls hP hS hl hL hst.2)
theorem z_49 (cx : q_Cx mt p s m meth c args k D cy n ad A R cells slots) (hg : ∀ pc L st σ, g pc L st σ = some r → q_W mt p l e R s m args below meth c Q D cy ad n A k cells slots pc L st σ) (ho : q_okB mt k pc (49, ox, oa, ob, ol) = true) (h : q_stp n g cal pc (49, ox, oa, ob, ol) L st σ = some r) : q_W mt p l e R s m args below meth c Q D cy ad n A k cells slots pc L st σ := by
  replace ho : (q_dc (mt k).2.1 pc (.if_icmp .eq ox) 3 && q_tg pc ox oa) = true := ho
  simp only [Bool.and_eq_true] at ho
  replace h : ((q_pI st).bind fun y => (q_pI y.2).bind fun x => if x.1 = y.1 then g oa L x.2 σ else g (pc + 3) L x.2 σ) = some r := h
  obtain ⟨y, e_y, h⟩ := Option.bind_eq_some_iff.mp h
  obtain ⟨x, e_x, h⟩ := Option.bind_eq_some_iff.mp h
  rw [q_pI_s e_y, q_pI_s e_x]
  intro H locs ls hP hS hl hL hst
  exact lv_icmp_eq cx.1 cx.2.1 (q_dd ho.1) (of_decide_eq_true ho.2) (fun hc => hg _ _ _ _ ((if_pos hc).symm.trans h) H locs ls hP hS hl hL hst.2.2) (fun hc => hg _ _ _ _ ((if_neg hc).symm.trans h) H locs ls hP hS hl hL hst.2.2)
theorem z_50 (cx : q_Cx mt p s m meth c args k D cy n ad A R cells slots) (hg : ∀ pc L st σ, g pc L st σ = some r → q_W mt p l e R s m args below meth c Q D cy ad n A k cells slots pc L st σ) (ho : q_okB mt k pc (50, ox, oa, ob, ol) = true) (h : q_stp n g cal pc (50, ox, oa, ob, ol) L st σ = some r) : q_W mt p l e R s m args below meth c Q D cy ad n A k cells slots pc L st σ := by
  replace ho : (q_dc (mt k).2.1 pc (.if_icmp .ne ox) 3 && q_tg pc ox oa) = true := ho
  simp only [Bool.and_eq_true] at ho
  replace h : ((q_pI st).bind fun y => (q_pI y.2).bind fun x => if x.1 = y.1 then g (pc + 3) L x.2 σ else g oa L x.2 σ) = some r := h
  obtain ⟨y, e_y, h⟩ := Option.bind_eq_some_iff.mp h
  obtain ⟨x, e_x, h⟩ := Option.bind_eq_some_iff.mp h
  rw [q_pI_s e_y, q_pI_s e_x]
  intro H locs ls hP hS hl hL hst
  exact lv_icmp_ne cx.1 cx.2.1 (q_dd ho.1) (of_decide_eq_true ho.2) (fun hc => hg _ _ _ _ ((if_neg hc).symm.trans h) H locs ls hP hS hl hL hst.2.2) (fun hc => hg _ _ _ _ ((if_pos hc).symm.trans h) H locs ls hP hS hl hL hst.2.2)
theorem z_51 (cx : q_Cx mt p s m meth c args k D cy n ad A R cells slots) (hg : ∀ pc L st σ, g pc L st σ = some r → q_W mt p l e R s m args below meth c Q D cy ad n A k cells slots pc L st σ) (ho : q_okB mt k pc (51, ox, oa, ob, ol) = true) (h : q_stp n g cal pc (51, ox, oa, ob, ol) L st σ = some r) : q_W mt p l e R s m args below meth c Q D cy ad n A k cells slots pc L st σ := by
  replace ho : (q_dc (mt k).2.1 pc (.if_icmp .lt ox) 3 && q_tg pc ox oa) = true := ho
  simp only [Bool.and_eq_true] at ho
  replace h : ((q_pI st).bind fun y => (q_pI y.2).bind fun x => if x.1 < y.1 then g oa L x.2 σ else g (pc + 3) L x.2 σ) = some r := h
  obtain ⟨y, e_y, h⟩ := Option.bind_eq_some_iff.mp h
  obtain ⟨x, e_x, h⟩ := Option.bind_eq_some_iff.mp h
  rw [q_pI_s e_y, q_pI_s e_x]
  intro H locs ls hP hS hl hL hst
  exact lv_icmp_lt cx.1 cx.2.1 (q_dd ho.1) (of_decide_eq_true ho.2) (fun hc => hg _ _ _ _ ((if_pos hc).symm.trans h) H locs ls hP hS hl hL hst.2.2) (fun hc => hg _ _ _ _ ((if_neg hc).symm.trans h) H locs ls hP hS hl hL hst.2.2)
theorem z_52 (cx : q_Cx mt p s m meth c args k D cy n ad A R cells slots) (hg : ∀ pc L st σ, g pc L st σ = some r → q_W mt p l e R s m args below meth c Q D cy ad n A k cells slots pc L st σ) (ho : q_okB mt k pc (52, ox, oa, ob, ol) = true) (h : q_stp n g cal pc (52, ox, oa, ob, ol) L st σ = some r) : q_W mt p l e R s m args below meth c Q D cy ad n A k cells slots pc L st σ := by
  replace ho : (q_dc (mt k).2.1 pc (.if_icmp .ge ox) 3 && q_tg pc ox oa) = true := ho
  simp only [Bool.and_eq_true] at ho
  replace h : ((q_pI st).bind fun y => (q_pI y.2).bind fun x => if y.1 ≤ x.1 then g oa L x.2 σ else g (pc + 3) L x.2 σ) = some r := h
  obtain ⟨y, e_y, h⟩ := Option.bind_eq_some_iff.mp h
  obtain ⟨x, e_x, h⟩ := Option.bind_eq_some_iff.mp h
  rw [q_pI_s e_y, q_pI_s e_x]
  intro H locs ls hP hS hl hL hst
  exact lv_icmp_ge cx.1 cx.2.1 (q_dd ho.1) (of_decide_eq_true ho.2) (fun hc => hg _ _ _ _ ((if_pos hc).symm.trans h) H locs ls hP hS hl hL hst.2.2) (fun hc => hg _ _ _ _ ((if_neg hc).symm.trans h) H locs ls hP hS hl hL hst.2.2)
theorem z_53 (cx : q_Cx mt p s m meth c args k D cy n ad A R cells slots) (hg : ∀ pc L st σ, g pc L st σ = some r → q_W mt p l e R s m args below meth c Q D cy ad n A k cells slots pc L st σ) (ho : q_okB mt k pc (53, ox, oa, ob, ol) = true) (h : q_stp n g cal pc (53, ox, oa, ob, ol) L st σ = some r) : q_W mt p l e R s m args below meth c Q D cy ad n A k cells slots pc L st σ := by
  replace ho : (q_dc (mt k).2.1 pc (.if_icmp .gt ox) 3 && q_tg pc ox oa) = true := ho
  simp only [Bool.and_eq_true] at ho
  replace h : ((q_pI st).bind fun y => (q_pI y.2).bind fun x => if y.1 < x.1 then g oa L x.2 σ else g (pc + 3) L x.2 σ) = some r := h
  obtain ⟨y, e_y, h⟩ := Option.bind_eq_some_iff.mp h
  obtain ⟨x, e_x, h⟩ := Option.bind_eq_some_iff.mp h
  rw [q_pI_s e_y, q_pI_s e_x]
  intro H locs ls hP hS hl hL hst
  exact lv_icmp_gt cx.1 cx.2.1 (q_dd ho.1) (of_decide_eq_true ho.2) (fun hc => hg _ _ _ _ ((if_pos hc).symm.trans h) H locs ls hP hS hl hL hst.2.2) (fun hc => hg _ _ _ _ ((if_neg hc).symm.trans h) H locs ls hP hS hl hL hst.2.2)
theorem z_54 (cx : q_Cx mt p s m meth c args k D cy n ad A R cells slots) (hg : ∀ pc L st σ, g pc L st σ = some r → q_W mt p l e R s m args below meth c Q D cy ad n A k cells slots pc L st σ) (ho : q_okB mt k pc (54, ox, oa, ob, ol) = true) (h : q_stp n g cal pc (54, ox, oa, ob, ol) L st σ = some r) : q_W mt p l e R s m args below meth c Q D cy ad n A k cells slots pc L st σ := by
  replace ho : (q_dc (mt k).2.1 pc (.if_icmp .le ox) 3 && q_tg pc ox oa) = true := ho
  simp only [Bool.and_eq_true] at ho
  replace h : ((q_pI st).bind fun y => (q_pI y.2).bind fun x => if x.1 ≤ y.1 then g oa L x.2 σ else g (pc + 3) L x.2 σ) = some r := h
  obtain ⟨y, e_y, h⟩ := Option.bind_eq_some_iff.mp h
  obtain ⟨x, e_x, h⟩ := Option.bind_eq_some_iff.mp h
  rw [q_pI_s e_y, q_pI_s e_x]
  intro H locs ls hP hS hl hL hst
  exact lv_icmp_le cx.1 cx.2.1 (q_dd ho.1) (of_decide_eq_true ho.2) (fun hc => hg _ _ _ _ ((if_pos hc).symm.trans h) H locs ls hP hS hl hL hst.2.2) (fun hc => hg _ _ _ _ ((if_neg hc).symm.trans h) H locs ls hP hS hl hL hst.2.2)
end SND
end
section
/-! Each step of the interpreter is a step of the machine: fields, rows, switches. Ours -/
theorem q_bf {α : Type} {b : Bool} {x : Option α} {r : α} (h : (bif b then x else none) = some r) : b = true ∧ x = some r := by
  cases b with
  | true => exact ⟨rfl, h⟩
  | false => cases h
theorem q_in_p {i : Int32} {n : Nat} (h : q_in i n = true) : vp_in i n := of_decide_eq_true (p := ¬ (i < 0 ∨ n ≤ i.toNatClampNeg)) h
theorem q_b1 {v : Int32} (h : v &&& 1 = v) : narrow .boolean (.int v) = .int v ∧ fits .boolean (.int v) = true := by
  have h2 : v = 0 ∨ v = 1 := by
    obtain ⟨j, hj, e⟩ := pk_andE v (m := 1) 1 (by decide)
    rw [h] at e
    rcases (show j = 0 ∨ j = 1 by omega) with rfl | rfl
    · exact Or.inl e
    · exact Or.inr e
  rcases h2 with e | e <;> rw [e] <;> exact ⟨rfl, rfl⟩
theorem cj_sA' {cy : Nat → ClassId} {ad : Nat → Nat → Nat} {n : Nat} {σ : J} {k i t : Nat} {g : Nat → Int32} {w : Nat × Nat × Nat × Nat} (h : q_ka k = some w) (hw : w.1 = t) (ht : t = 0 ∨ t = 2) : hup (cj cy ad n σ) k i (.inl (cy t, q_nn n w.2.2, .inl g)) = cj cy ad n (q_sA σ k i g) := by
  subst hw
  exact cj_sA h ht
theorem cj_sL' {cy : Nat → ClassId} {ad : Nat → Nat → Nat} {n : Nat} {σ : J} {k i t : Nat} {g : Nat → Int64} {w : Nat × Nat × Nat × Nat} (h : q_ka k = some w) (hw : w.1 = t) (ht : t = 1) : hup (cj cy ad n σ) k i (.inl (cy t, q_nn n w.2.2, .inr (.inl g))) = cj cy ad n (q_sL σ k i g) := by
  subst hw
  exact cj_sL h ht
def q_kaB (k : Nat) : Bool := match q_ka k with
  | none => true
  | some w => Nat.blt w.1 7 && (Nat.blt w.1 3 || (match q_ko w.2.1 with
    | none => false
    | some v => decide (q_tn.getD w.1 .int = .object (q_cl v.1).1)))
theorem q_kaB_all : (List.range q_kat.length).all q_kaB = true := by decide +kernel
theorem q_kaB_at {k : Nat} {w : Nat × Nat × Nat × Nat} (h : q_ka k = some w) : w.1 < 7 ∧ (2 < w.1 → ∃ v, q_ko w.2.1 = some v ∧ q_tn.getD w.1 .int = .object (q_cl v.1).1) := by
  have hk : k < q_kat.length := by
    apply Nat.lt_of_not_le
    intro hk
    unfold q_ka at h
    rw [List.getD_eq_getElem?_getD, List.getElem?_eq_none hk] at h
    cases h
  have h1 := List.all_eq_true.mp q_kaB_all k (List.mem_range.mpr hk)
  unfold q_kaB at h1
  rw [h] at h1
  simp only [Bool.and_eq_true, Bool.or_eq_true] at h1
  refine ⟨Nat.blt_eq.mp h1.1, fun h2 => ?_⟩
  rcases h1.2 with h3 | h3
  · have := Nat.blt_eq.mp h3
    omega
  · cases hv : q_ko w.2.1 with
    | none => rw [hv] at h3; cases h3
    | some v =>
      rw [hv] at h3
      exact ⟨v, rfl, of_decide_eq_true h3⟩
theorem q_ty_at (cy : Nat → ClassId) {t : Nat} (h : t < 7) : (q_ty cy)[t]? = some (cy t, q_tn.getD t .int) := by
  match t, h with
  | 0, _ => rfl
  | 1, _ => rfl
  | 2, _ => rfl
  | 3, _ => rfl
  | 4, _ => rfl
  | 5, _ => rfl
  | 6, _ => rfl
theorem q_sw_in {g : Nat → Option Res} {x : Int32} {t u : Nat} (ts : List Nat) : ∀ (lo j : Nat), x = Int32.ofNat (lo + j) → ts[j]? = some u → lo + ts.length < 2 ^ 31 → q_sw g x lo ts t = g u := by
  induction ts with
  | nil => intro lo j _ h; cases h
  | cons w r ih =>
    intro lo j hx hj hs
    cases j with
    | zero =>
      obtain rfl : w = u := Option.some.inj hj
      exact if_pos hx
    | succ j =>
      rw [List.length_cons] at hs
      have hl : j < r.length := Nat.lt_of_succ_lt_succ (List.getElem?_eq_some_iff.mp hj).1
      show (if x = Int32.ofNat lo then g w else _) = _
      rw [if_neg]
      · exact ih (lo + 1) j (by rw [hx]; congr 1; omega) hj (by omega)
      · intro e
        have h2 : nI (lo + (j + 1)) = nI lo := hx.symm.trans e
        have := (nI_eq (a := lo + (j + 1)) (b := lo) (by omega) (by omega)).mp h2
        omega
theorem q_sw_out {g : Nat → Option Res} {x : Int32} {t : Nat} (ts : List Nat) : ∀ (lo : Nat), (∀ j, j < ts.length → x ≠ Int32.ofNat (lo + j)) → q_sw g x lo ts t = g t := by
  induction ts with
  | nil => intro lo _; rfl
  | cons w r ih =>
    intro lo h
    refine (if_neg (h 0 (by simp))).trans ?_
    exact ih (lo + 1) fun j hj => by
      have := h (j + 1) (by simp; omega)
      rwa [show lo + (j + 1) = lo + 1 + j by omega] at this
section SNH
variable {mt : Nat → MRow} {p : Program} {l : Launch} {e : Env} {R : Room} {s : State} {m : MethodId} {args : Array Value} {below : List Frame} {meth : Method} {c : Code} {Q : State → Prop} {D : va_G} {cy : Nat → ClassId} {ad : Nat → Nat → Nat} {n k cells slots pc : Nat} {A : Nat → Prop} {g : Nat → PL → List PV → J → Option Res} {cal : Nat → List PV → J → Option Res} {r : Res} {L : PL} {st : List PV} {σ : J} {ox : Int} {oa ob : Nat} {ol : List Nat}
theorem z_55 (cx : q_Cx mt p s m meth c args k D cy n ad A R cells slots) (hg : ∀ pc L st σ, g pc L st σ = some r → q_W mt p l e R s m args below meth c Q D cy ad n A k cells slots pc L st σ) (ho : q_okB mt k pc (55, ox, oa, ob, ol) = true) (h : q_stp n g cal pc (55, ox, oa, ob, ol) L st σ = some r) : q_W mt p l e R s m args below meth c Q D cy ad n A k cells slots pc L st σ := by
  replace ho : (q_dc (mt k).2.1 pc (.tableswitch ox (oa : Int) ((oa + ol.tail.length : Int) - 1) ((ol.tail.map fun (t : Nat) => (t : Int) - (pc : Int)).toArray)) (ol.getD 0 0) && q_tg pc ox ob && Nat.blt (oa + ol.tail.length) 1000) = true := ho
  simp only [Bool.and_eq_true] at ho
  have hsz := Nat.blt_eq.mp ho.2
  replace h : ((q_pI st).bind fun x => q_sw (fun t => g t L x.2 σ) x.1 oa ol.tail ob) = some r := h
  obtain ⟨x, e_x, h⟩ := Option.bind_eq_some_iff.mp h
  rw [q_pI_s e_x]
  intro H locs ls hP hS hl hL hst
  by_cases hout : x.1.toInt < (oa : Int) ∨ ((oa + ol.tail.length : Int) - 1) < x.1.toInt
  · rw [q_sw_out] at h
    · exact lv_tableOut cx.1 cx.2.1 (q_dd ho.1.1) hout (of_decide_eq_true ho.1.2) (hg _ _ _ _ h H locs ls hP hS hl hL hst.2)
    · intro j hj e
      have e2 : x.1.toInt = ((oa + j : Nat) : Int) := by
        rw [e]
        exact nI_toInt (by omega)
      omega
  · have h1 : ¬ x.1.toInt < (oa : Int) := fun q => hout (Or.inl q)
    have h2 : ¬ ((oa + ol.tail.length : Int) - 1) < x.1.toInt := fun q => hout (Or.inr q)
    have hj : (x.1.toInt - (oa : Int)).toNat < ol.tail.length := by omega
    have hu : ol.tail[(x.1.toInt - (oa : Int)).toNat]? = some (ol.tail[(x.1.toInt - (oa : Int)).toNat]'hj) := List.getElem?_eq_getElem hj
    rw [q_sw_in (u := ol.tail[(x.1.toInt - (oa : Int)).toNat]'hj) ol.tail oa (x.1.toInt - (oa : Int)).toNat _ hu (by omega)] at h
    · refine lv_tableIn (off := ((ol.tail[(x.1.toInt - (oa : Int)).toNat]'hj : Nat) : Int) - (pc : Int)) cx.1 cx.2.1 (q_dd ho.1.1) h1 h2 ?_ ?_ (hg _ _ _ _ h H locs ls hP hS hl hL hst.2)
      · rw [List.getElem?_toArray, List.getElem?_map, hu]
        rfl
      · omega
    · apply Int32.toInt_inj.mp
      rw [show (Int32.ofNat (oa + (x.1.toInt - (oa : Int)).toNat)).toInt = ((oa + (x.1.toInt - (oa : Int)).toNat : Nat) : Int) from nI_toInt (by omega)]
      omega
theorem z_56 (cx : q_Cx mt p s m meth c args k D cy n ad A R cells slots) (hg : ∀ pc L st σ, g pc L st σ = some r → q_W mt p l e R s m args below meth c Q D cy ad n A k cells slots pc L st σ) (ho : q_okB mt k pc (56, ox, oa, ob, ol) = true) (h : q_stp n g cal pc (56, ox, oa, ob, ol) L st σ = some r) : q_W mt p l e R s m args below meth c Q D cy ad n A k cells slots pc L st σ := by
  replace ho : (q_dc (mt k).2.1 pc (.getfield oa) 3 && q_wd (ol.getD 1 0) (.fieldLink (mt k).1.cls oa ((q_cl (ol.getD 0 0)).2.1 ob).1 ((q_cl (ol.getD 0 0)).2.1 ob).2.1 ((q_cl (ol.getD 0 0)).2.1 ob).2.2.1)) = true := ho
  simp only [Bool.and_eq_true] at ho
  replace h : ((q_pR st).bind fun q => (q_ko q.1.1).bind fun w => bif Nat.beq w.1 (ol.getD 0 0) then (w.2[ob]?).bind fun d => g (pc + 3) L (q_fv σ q.1.1 q.1.2 ob d :: q.2) σ else none) = some r := h
  obtain ⟨q, e_q, h⟩ := Option.bind_eq_some_iff.mp h
  obtain ⟨w, e_w, h⟩ := Option.bind_eq_some_iff.mp h
  obtain ⟨hb, h⟩ := q_bf h
  obtain ⟨d, e_d, h⟩ := Option.bind_eq_some_iff.mp h
  rw [← Nat.eq_of_beq_eq_true hb] at ho
  rw [q_pR_s e_q]
  intro H locs ls hP hS hl hL hst
  have hi : (q.1.1, q.1.2) ∈ idj n := q_ok_in hst.1
  obtain ⟨t, ht0, ht⟩ := wl_at (ad := ad) (cn := cj cy ad n σ) hi
  rw [cj_o e_w] at ht
  have hc := q_kB_at e_w
  have hk : ob < (q_cl w.1).2.2 := by
    rw [← hc.2.1]
    exact (List.getElem?_eq_some_iff.mp e_d).1
  exact va_get (Ts := gt) (v := q_tv ad (q_fv σ q.1.1 q.1.2 ob d)) cx.1 cx.2.1 cx.2.2.2.2.1 (vc_ok w.1 _ (q_cl_at hc.1)).1 cx.2.2.2.1 cx.2.2.2.2.2.1 hP t ht (q_cl_at hc.1) ob hk (cx.2.2.2.2.1 _ (q_wd_in ho.2)) (fun _ h => h) (by rw [q_fs_at, e_d, Nat.zero_add]; rfl) (q_dd ho.1) (hg _ _ _ _ h H locs ls hP hS hl hL ⟨q_fv_ok e_w e_d hi, hst.2⟩)
theorem z_57 (cx : q_Cx mt p s m meth c args k D cy n ad A R cells slots) (hg : ∀ pc L st σ, g pc L st σ = some r → q_W mt p l e R s m args below meth c Q D cy ad n A k cells slots pc L st σ) (ho : q_okB mt k pc (57, ox, oa, ob, ol) = true) (h : q_stp n g cal pc (57, ox, oa, ob, ol) L st σ = some r) : q_W mt p l e R s m args below meth c Q D cy ad n A k cells slots pc L st σ := by
  replace ho : (q_dc (mt k).2.1 pc (.putfield oa) 3 && q_wd (ol.getD 1 0) (.fieldLink (mt k).1.cls oa ((q_cl (ol.getD 0 0)).2.1 ob).1 ((q_cl (ol.getD 0 0)).2.1 ob).2.1 ((q_cl (ol.getD 0 0)).2.1 ob).2.2.1) && !((q_cl (ol.getD 0 0)).2.1 ob).2.2.2) = true := ho
  simp only [Bool.and_eq_true, Bool.not_eq_true'] at ho
  replace h : ((q_pI st).bind fun v => (q_pR v.2).bind fun q => (q_ko q.1.1).bind fun w => bif Nat.beq w.1 (ol.getD 0 0) then (w.2[ob]?).bind fun d => bif Nat.beq d.1 0 then g (pc + 3) L q.2 (q_sI σ q.1.1 ob q.1.2 v.1) else bif Nat.beq d.1 1 then if v.1 &&& 1 = v.1 then g (pc + 3) L q.2 (q_sI σ q.1.1 ob q.1.2 v.1) else none else none else none) = some r := h
  obtain ⟨v, e_v, h⟩ := Option.bind_eq_some_iff.mp h
  obtain ⟨q, e_q, h⟩ := Option.bind_eq_some_iff.mp h
  obtain ⟨w, e_w, h⟩ := Option.bind_eq_some_iff.mp h
  obtain ⟨hb, h⟩ := q_bf h
  obtain ⟨d, e_d, h⟩ := Option.bind_eq_some_iff.mp h
  rw [← Nat.eq_of_beq_eq_true hb] at ho
  rw [q_pI_s e_v, q_pR_s e_q]
  intro H locs ls hP hS hl hL hst
  have hi : (q.1.1, q.1.2) ∈ idj n := q_ok_in hst.2.1
  obtain ⟨t, ht0, ht⟩ := wl_at (ad := ad) (cn := cj cy ad n σ) hi
  rw [cj_o e_w] at ht
  have hc := q_kB_at e_w
  have hk : ob < (q_cl w.1).2.2 := by
    rw [← hc.2.1]
    exact (List.getElem?_eq_some_iff.mp e_d).1
  obtain ⟨hin, ty0, hty, hnm⟩ := vc_ok w.1 _ (q_cl_at hc.1)
  have key : ∀ ty : FieldType, parseFieldDescriptor ((q_cl w.1).2.1 ob).2.2.1 = some ty → narrow ty (.int v.1) = .int v.1 → fits ty (.int v.1) = true → d.1 < 2 → g (pc + 3) L q.2 (q_sI σ q.1.1 ob q.1.2 v.1) = some r → W p l e R s m args below meth c H locs cells slots Q (F0 m pc ls ((.inl v.1 :: .inr (.inr (some q.1)) :: q.2 : List PV).map (q_tv ad))) := by
    intro ty hd hn hf h2 h
    refine va_put (Ts := gt) (ty := ty) (v := .int v.1) cx.1 cx.2.1 cx.2.2.2.2.1 hin ty0 hty hnm cx.2.2.2.1 cx.2.2.2.2.2.1 hP (cx.2.2.2.2.2.2.2.2.1 _) hS t ht (q_cl_at hc.1) ob hk (cx.2.2.2.2.1 _ (q_wd_in ho.1.2)) (fun _ h => h) ho.2 hd hn hf (by rw [q_fs_len]; exact (List.getElem?_eq_some_iff.mp e_d).1) (q_dd ho.1.1) (fun H1 locs1 hP1 _ hS1 => ?_)
    rw [wl_set (cx.2.2.2.2.2.2.2.2.1 _) ht0, cj_sI e_w e_d h2] at hP1
    exact hg _ _ _ _ h H1 locs1 ls hP1 hS1 hl hL hst.2.2
  cases h0 : Nat.beq d.1 0 with
  | true =>
    rw [h0] at h
    have h00 := Nat.eq_of_beq_eq_true h0
    exact key .int (by rw [(hc.2.2.2 ob d e_d).1 h00]; rfl) rfl rfl (by omega) h
  | false =>
    rw [h0] at h
    obtain ⟨h1, h⟩ := q_bf h
    have h11 := Nat.eq_of_beq_eq_true h1
    by_cases hz : v.1 &&& 1 = v.1
    · rw [if_pos hz] at h
      exact key .boolean (by rw [(hc.2.2.2 ob d e_d).2 h11]; rfl) (q_b1 hz).1 (q_b1 hz).2 (by omega) h
    · rw [if_neg hz] at h
      cases h
theorem z_58 (cx : q_Cx mt p s m meth c args k D cy n ad A R cells slots) (hg : ∀ pc L st σ, g pc L st σ = some r → q_W mt p l e R s m args below meth c Q D cy ad n A k cells slots pc L st σ) (ho : q_okB mt k pc (58, ox, oa, ob, ol) = true) (h : q_stp n g cal pc (58, ox, oa, ob, ol) L st σ = some r) : q_W mt p l e R s m args below meth c Q D cy ad n A k cells slots pc L st σ := by
  replace ho : q_dc (mt k).2.1 pc .iaload 1 = true := ho
  replace h : ((q_pI st).bind fun j => (q_pR j.2).bind fun q => (q_ka q.1.1).bind fun w => bif Nat.beq w.1 0 then bif q_in j.1 (q_nn n w.2.2) then g (pc + 1) L (.inl (σ.2.1 q.1.1 q.1.2 j.1.toNatClampNeg) :: q.2) σ else none else none) = some r := h
  obtain ⟨j, e_j, h⟩ := Option.bind_eq_some_iff.mp h
  obtain ⟨q, e_q, h⟩ := Option.bind_eq_some_iff.mp h
  obtain ⟨w, e_w, h⟩ := Option.bind_eq_some_iff.mp h
  obtain ⟨hb, h⟩ := q_bf h
  obtain ⟨hz, h⟩ := q_bf h
  rw [q_pI_s e_j, q_pR_s e_q]
  intro H locs ls hP hS hl hL hst
  have hi : (q.1.1, q.1.2) ∈ idj n := q_ok_in hst.2.1
  obtain ⟨t, ht0, ht⟩ := wl_at (ad := ad) (cn := cj cy ad n σ) hi
  rw [cj_a e_w] at ht
  rw [show w.1 = 0 from Nat.eq_of_beq_eq_true hb] at ht
  exact va_iald cx.1 cx.2.1 cx.2.2.2.2.2.1 hP t 0 ht rfl (q_in_p hz) (q_dd ho) (hg _ _ _ _ h H locs ls hP hS hl hL ⟨rfl, hst.2.2⟩)
theorem z_59 (cx : q_Cx mt p s m meth c args k D cy n ad A R cells slots) (hg : ∀ pc L st σ, g pc L st σ = some r → q_W mt p l e R s m args below meth c Q D cy ad n A k cells slots pc L st σ) (ho : q_okB mt k pc (59, ox, oa, ob, ol) = true) (h : q_stp n g cal pc (59, ox, oa, ob, ol) L st σ = some r) : q_W mt p l e R s m args below meth c Q D cy ad n A k cells slots pc L st σ := by
  replace ho : q_dc (mt k).2.1 pc .laload 1 = true := ho
  replace h : ((q_pI st).bind fun j => (q_pR j.2).bind fun q => (q_ka q.1.1).bind fun w => bif Nat.beq w.1 1 then bif q_in j.1 (q_nn n w.2.2) then g (pc + 1) L (.inr (.inl (σ.2.2.1 q.1.1 q.1.2 j.1.toNatClampNeg)) :: q.2) σ else none else none) = some r := h
  obtain ⟨j, e_j, h⟩ := Option.bind_eq_some_iff.mp h
  obtain ⟨q, e_q, h⟩ := Option.bind_eq_some_iff.mp h
  obtain ⟨w, e_w, h⟩ := Option.bind_eq_some_iff.mp h
  obtain ⟨hb, h⟩ := q_bf h
  obtain ⟨hz, h⟩ := q_bf h
  rw [q_pI_s e_j, q_pR_s e_q]
  intro H locs ls hP hS hl hL hst
  have hi : (q.1.1, q.1.2) ∈ idj n := q_ok_in hst.2.1
  obtain ⟨t, ht0, ht⟩ := wl_at (ad := ad) (cn := cj cy ad n σ) hi
  rw [cj_a e_w] at ht
  rw [show w.1 = 1 from Nat.eq_of_beq_eq_true hb] at ht
  exact va_lald cx.1 cx.2.1 cx.2.2.2.2.2.1 hP t 1 ht rfl (q_in_p hz) (q_dd ho) (hg _ _ _ _ h H locs ls hP hS hl hL ⟨rfl, hst.2.2⟩)
theorem z_61 (cx : q_Cx mt p s m meth c args k D cy n ad A R cells slots) (hg : ∀ pc L st σ, g pc L st σ = some r → q_W mt p l e R s m args below meth c Q D cy ad n A k cells slots pc L st σ) (ho : q_okB mt k pc (61, ox, oa, ob, ol) = true) (h : q_stp n g cal pc (61, ox, oa, ob, ol) L st σ = some r) : q_W mt p l e R s m args below meth c Q D cy ad n A k cells slots pc L st σ := by
  replace ho : q_dc (mt k).2.1 pc .baload 1 = true := ho
  replace h : ((q_pI st).bind fun j => (q_pR j.2).bind fun q => (q_ka q.1.1).bind fun w => bif Nat.beq w.1 2 then bif q_in j.1 (q_nn n w.2.2) then g (pc + 1) L (.inl (σ.2.1 q.1.1 q.1.2 j.1.toNatClampNeg) :: q.2) σ else none else none) = some r := h
  obtain ⟨j, e_j, h⟩ := Option.bind_eq_some_iff.mp h
  obtain ⟨q, e_q, h⟩ := Option.bind_eq_some_iff.mp h
  obtain ⟨w, e_w, h⟩ := Option.bind_eq_some_iff.mp h
  obtain ⟨hb, h⟩ := q_bf h
  obtain ⟨hz, h⟩ := q_bf h
  rw [q_pI_s e_j, q_pR_s e_q]
  intro H locs ls hP hS hl hL hst
  have hi : (q.1.1, q.1.2) ∈ idj n := q_ok_in hst.2.1
  obtain ⟨t, ht0, ht⟩ := wl_at (ad := ad) (cn := cj cy ad n σ) hi
  rw [cj_a e_w] at ht
  rw [show w.1 = 2 from Nat.eq_of_beq_eq_true hb] at ht
  exact va_zald cx.1 cx.2.1 cx.2.2.2.2.2.1 hP t 2 ht rfl (q_in_p hz) (q_dd ho) (hg _ _ _ _ h H locs ls hP hS hl hL ⟨rfl, hst.2.2⟩)
theorem z_60 (cx : q_Cx mt p s m meth c args k D cy n ad A R cells slots) (hg : ∀ pc L st σ, g pc L st σ = some r → q_W mt p l e R s m args below meth c Q D cy ad n A k cells slots pc L st σ) (ho : q_okB mt k pc (60, ox, oa, ob, ol) = true) (h : q_stp n g cal pc (60, ox, oa, ob, ol) L st σ = some r) : q_W mt p l e R s m args below meth c Q D cy ad n A k cells slots pc L st σ := by
  replace ho : q_dc (mt k).2.1 pc .aaload 1 = true := ho
  replace h : ((q_pI st).bind fun j => (q_pR j.2).bind fun q => (q_ka q.1.1).bind fun w => bif Nat.blt 2 w.1 then bif q_in j.1 (q_nn n w.2.2) then bif Nat.blt (σ.2.2.2 q.1.1 q.1.2 j.1.toNatClampNeg) (q_ct n w.2.1) then g (pc + 1) L (.inr (.inr (some (w.2.1, σ.2.2.2 q.1.1 q.1.2 j.1.toNatClampNeg))) :: q.2) σ else none else none else none) = some r := h
  obtain ⟨j, e_j, h⟩ := Option.bind_eq_some_iff.mp h
  obtain ⟨q, e_q, h⟩ := Option.bind_eq_some_iff.mp h
  obtain ⟨w, e_w, h⟩ := Option.bind_eq_some_iff.mp h
  obtain ⟨hb, h⟩ := q_bf h
  obtain ⟨hz, h⟩ := q_bf h
  obtain ⟨hx, h⟩ := q_bf h
  have h2 := Nat.blt_eq.mp hb
  rw [q_pI_s e_j, q_pR_s e_q]
  intro H locs ls hP hS hl hL hst
  have hi : (q.1.1, q.1.2) ∈ idj n := q_ok_in hst.2.1
  obtain ⟨t, ht0, ht⟩ := wl_at (ad := ad) (cn := cj cy ad n σ) hi
  rw [cj_a e_w, q_ar_q h2] at ht
  obtain ⟨hw, hw2⟩ := q_kaB_at e_w
  obtain ⟨v, hv1, hv2⟩ := hw2 h2
  have hty := q_ty_at cy hw
  rw [hv2] at hty
  exact va_aldq cx.1 cx.2.1 cx.2.2.2.2.2.1 hP t w.1 ht hty (q_in_p hz) (q_dd ho) (hg _ _ _ _ h H locs ls hP hS hl hL ⟨hx, hst.2.2⟩)
theorem z_62 (cx : q_Cx mt p s m meth c args k D cy n ad A R cells slots) (hg : ∀ pc L st σ, g pc L st σ = some r → q_W mt p l e R s m args below meth c Q D cy ad n A k cells slots pc L st σ) (ho : q_okB mt k pc (62, ox, oa, ob, ol) = true) (h : q_stp n g cal pc (62, ox, oa, ob, ol) L st σ = some r) : q_W mt p l e R s m args below meth c Q D cy ad n A k cells slots pc L st σ := by
  replace ho : q_dc (mt k).2.1 pc .iastore 1 = true := ho
  replace h : ((q_pI st).bind fun v => (q_pI v.2).bind fun j => (q_pR j.2).bind fun q => (q_ka q.1.1).bind fun w => bif Nat.beq w.1 0 then bif q_in j.1 (q_nn n w.2.2) then g (pc + 1) L q.2 (q_sA σ q.1.1 q.1.2 (upd (σ.2.1 q.1.1 q.1.2) j.1.toNatClampNeg v.1)) else none else none) = some r := h
  obtain ⟨v, e_v, h⟩ := Option.bind_eq_some_iff.mp h
  obtain ⟨j, e_j, h⟩ := Option.bind_eq_some_iff.mp h
  obtain ⟨q, e_q, h⟩ := Option.bind_eq_some_iff.mp h
  obtain ⟨w, e_w, h⟩ := Option.bind_eq_some_iff.mp h
  obtain ⟨hb, h⟩ := q_bf h
  obtain ⟨hz, h⟩ := q_bf h
  rw [q_pI_s e_v, q_pI_s e_j, q_pR_s e_q]
  intro H locs ls hP hS hl hL hst
  have hi : (q.1.1, q.1.2) ∈ idj n := q_ok_in hst.2.2.1
  obtain ⟨t, ht0, ht⟩ := wl_at (ad := ad) (cn := cj cy ad n σ) hi
  rw [cj_a e_w] at ht
  have hw : w.1 = 0 := Nat.eq_of_beq_eq_true hb
  rw [hw] at ht
  refine va_iast cx.1 cx.2.1 cx.2.2.2.2.2.1 hP (cx.2.2.2.2.2.2.2.2.1 _) hS t 0 ht rfl (q_in_p hz) (q_dd ho) (fun H1 locs1 hP1 _ hS1 => ?_)
  rw [wl_set (cx.2.2.2.2.2.2.2.2.1 _) ht0, cj_sA' e_w hw (Or.inl rfl)] at hP1
  exact hg _ _ _ _ h H1 locs1 ls hP1 hS1 hl hL hst.2.2.2
theorem z_63 (cx : q_Cx mt p s m meth c args k D cy n ad A R cells slots) (hg : ∀ pc L st σ, g pc L st σ = some r → q_W mt p l e R s m args below meth c Q D cy ad n A k cells slots pc L st σ) (ho : q_okB mt k pc (63, ox, oa, ob, ol) = true) (h : q_stp n g cal pc (63, ox, oa, ob, ol) L st σ = some r) : q_W mt p l e R s m args below meth c Q D cy ad n A k cells slots pc L st σ := by
  replace ho : q_dc (mt k).2.1 pc .lastore 1 = true := ho
  replace h : ((q_pL st).bind fun v => (q_pI v.2).bind fun j => (q_pR j.2).bind fun q => (q_ka q.1.1).bind fun w => bif Nat.beq w.1 1 then bif q_in j.1 (q_nn n w.2.2) then g (pc + 1) L q.2 (q_sL σ q.1.1 q.1.2 (vp_updL (σ.2.2.1 q.1.1 q.1.2) j.1.toNatClampNeg v.1)) else none else none) = some r := h
  obtain ⟨v, e_v, h⟩ := Option.bind_eq_some_iff.mp h
  obtain ⟨j, e_j, h⟩ := Option.bind_eq_some_iff.mp h
  obtain ⟨q, e_q, h⟩ := Option.bind_eq_some_iff.mp h
  obtain ⟨w, e_w, h⟩ := Option.bind_eq_some_iff.mp h
  obtain ⟨hb, h⟩ := q_bf h
  obtain ⟨hz, h⟩ := q_bf h
  rw [q_pL_s e_v, q_pI_s e_j, q_pR_s e_q]
  intro H locs ls hP hS hl hL hst
  have hi : (q.1.1, q.1.2) ∈ idj n := q_ok_in hst.2.2.1
  obtain ⟨t, ht0, ht⟩ := wl_at (ad := ad) (cn := cj cy ad n σ) hi
  rw [cj_a e_w] at ht
  have hw : w.1 = 1 := Nat.eq_of_beq_eq_true hb
  rw [hw] at ht
  refine va_last cx.1 cx.2.1 cx.2.2.2.2.2.1 hP (cx.2.2.2.2.2.2.2.2.1 _) hS t 1 ht rfl (q_in_p hz) (q_dd ho) (fun H1 locs1 hP1 _ hS1 => ?_)
  rw [wl_set (cx.2.2.2.2.2.2.2.2.1 _) ht0, cj_sL' e_w hw rfl] at hP1
  exact hg _ _ _ _ h H1 locs1 ls hP1 hS1 hl hL hst.2.2.2
theorem z_65 (cx : q_Cx mt p s m meth c args k D cy n ad A R cells slots) (hg : ∀ pc L st σ, g pc L st σ = some r → q_W mt p l e R s m args below meth c Q D cy ad n A k cells slots pc L st σ) (ho : q_okB mt k pc (65, ox, oa, ob, ol) = true) (h : q_stp n g cal pc (65, ox, oa, ob, ol) L st σ = some r) : q_W mt p l e R s m args below meth c Q D cy ad n A k cells slots pc L st σ := by
  replace ho : q_dc (mt k).2.1 pc .bastore 1 = true := ho
  replace h : ((q_pI st).bind fun v => (q_pI v.2).bind fun j => (q_pR j.2).bind fun q => (q_ka q.1.1).bind fun w => bif Nat.beq w.1 2 then bif q_in j.1 (q_nn n w.2.2) then if v.1 &&& 1 = v.1 then g (pc + 1) L q.2 (q_sA σ q.1.1 q.1.2 (upd (σ.2.1 q.1.1 q.1.2) j.1.toNatClampNeg v.1)) else none else none else none) = some r := h
  obtain ⟨v, e_v, h⟩ := Option.bind_eq_some_iff.mp h
  obtain ⟨j, e_j, h⟩ := Option.bind_eq_some_iff.mp h
  obtain ⟨q, e_q, h⟩ := Option.bind_eq_some_iff.mp h
  obtain ⟨w, e_w, h⟩ := Option.bind_eq_some_iff.mp h
  obtain ⟨hb, h⟩ := q_bf h
  obtain ⟨hz, h⟩ := q_bf h
  by_cases hv : ¬ (v.1 &&& 1 = v.1)
  · rw [if_neg hv] at h
    cases h
  replace hv := Classical.not_not.mp hv
  rw [if_pos hv] at h
  rw [q_pI_s e_v, q_pI_s e_j, q_pR_s e_q]
  intro H locs ls hP hS hl hL hst
  have hi : (q.1.1, q.1.2) ∈ idj n := q_ok_in hst.2.2.1
  obtain ⟨t, ht0, ht⟩ := wl_at (ad := ad) (cn := cj cy ad n σ) hi
  rw [cj_a e_w] at ht
  have hw : w.1 = 2 := Nat.eq_of_beq_eq_true hb
  rw [hw] at ht
  refine va_zast cx.1 cx.2.1 cx.2.2.2.2.2.1 hP (cx.2.2.2.2.2.2.2.2.1 _) hS t 2 ht rfl (q_in_p hz) (q_dd ho) (fun H1 locs1 hP1 _ hS1 => ?_)
  rw [show vp_nar .boolean v.1 = v.1 from hv] at hP1
  rw [wl_set (cx.2.2.2.2.2.2.2.2.1 _) ht0, cj_sA' e_w hw (Or.inr rfl)] at hP1
  exact hg _ _ _ _ h H1 locs1 ls hP1 hS1 hl hL hst.2.2.2
theorem z_64 (cx : q_Cx mt p s m meth c args k D cy n ad A R cells slots) (hg : ∀ pc L st σ, g pc L st σ = some r → q_W mt p l e R s m args below meth c Q D cy ad n A k cells slots pc L st σ) (ho : q_okB mt k pc (64, ox, oa, ob, ol) = true) (h : q_stp n g cal pc (64, ox, oa, ob, ol) L st σ = some r) : q_W mt p l e R s m args below meth c Q D cy ad n A k cells slots pc L st σ := by
  replace ho : q_dc (mt k).2.1 pc .aastore 1 = true := ho
  replace h : ((q_pR st).bind fun v => (q_pI v.2).bind fun j => (q_pR j.2).bind fun q => (q_ka q.1.1).bind fun w => bif Nat.blt 2 w.1 && Nat.beq w.2.1 v.1.1 then bif q_in j.1 (q_nn n w.2.2) then g (pc + 1) L q.2 (q_sP σ q.1.1 q.1.2 (va_up (σ.2.2.2 q.1.1 q.1.2) j.1.toNatClampNeg v.1.2)) else none else none) = some r := h
  obtain ⟨v, e_v, h⟩ := Option.bind_eq_some_iff.mp h
  obtain ⟨j, e_j, h⟩ := Option.bind_eq_some_iff.mp h
  obtain ⟨q, e_q, h⟩ := Option.bind_eq_some_iff.mp h
  obtain ⟨w, e_w, h⟩ := Option.bind_eq_some_iff.mp h
  obtain ⟨hb, h⟩ := q_bf h
  obtain ⟨hz, h⟩ := q_bf h
  simp only [Bool.and_eq_true] at hb
  have h2 := Nat.blt_eq.mp hb.1
  have h3 := Nat.eq_of_beq_eq_true hb.2
  rw [q_pR_s e_v, q_pI_s e_j, q_pR_s e_q]
  intro H locs ls hP hS hl hL hst
  have hi : (q.1.1, q.1.2) ∈ idj n := q_ok_in hst.2.2.1
  have hiv : (v.1.1, v.1.2) ∈ idj n := q_ok_in hst.1
  obtain ⟨t, ht0, ht⟩ := wl_at (ad := ad) (cn := cj cy ad n σ) hi
  obtain ⟨t2, -, ht2⟩ := wl_at (ad := ad) (cn := cj cy ad n σ) hiv
  rw [cj_a e_w, q_ar_q h2] at ht
  obtain ⟨hw, hw2⟩ := q_kaB_at e_w
  obtain ⟨vo, hv1, hv2⟩ := hw2 h2
  rw [h3] at hv1
  rw [cj_o hv1] at ht2
  have hty := q_ty_at cy hw
  rw [hv2] at hty
  refine va_astq (r := ((q_cl vo.1).1, (q_cl vo.1).2.1, (q_cl vo.1).2.2)) cx.1 cx.2.1 cx.2.2.2.2.2.1 hP (cx.2.2.2.2.2.2.2.2.1 _) hS t w.1 t2 vo.1 ht hty ht2 (q_cl_at (q_kB_at hv1).1) (q_in_p hz) (q_dd ho) (fun H1 locs1 hP1 _ hS1 => ?_)
  rw [wl_set (cx.2.2.2.2.2.2.2.2.1 _) ht0, show va_up (fun i => some (ad w.2.1 (σ.2.2.2 q.1.1 q.1.2 i))) j.1.toNatClampNeg (some (ad v.1.1 v.1.2)) = (fun i => some (ad w.2.1 (va_up (σ.2.2.2 q.1.1 q.1.2) j.1.toNatClampNeg v.1.2 i))) from ?_, cj_sP e_w h2] at hP1
  · exact hg _ _ _ _ h H1 locs1 ls hP1 hS1 hl hL hst.2.2.2
  · funext i
    by_cases hq : i = j.1.toNatClampNeg
    · simp [va_up, hq, h3]
    · simp [va_up, hq]
theorem z_66 (cx : q_Cx mt p s m meth c args k D cy n ad A R cells slots) (hg : ∀ pc L st σ, g pc L st σ = some r → q_W mt p l e R s m args below meth c Q D cy ad n A k cells slots pc L st σ) (ho : q_okB mt k pc (66, ox, oa, ob, ol) = true) (h : q_stp n g cal pc (66, ox, oa, ob, ol) L st σ = some r) : q_W mt p l e R s m args below meth c Q D cy ad n A k cells slots pc L st σ := by
  replace ho : q_dc (mt k).2.1 pc .arraylength 1 = true := ho
  replace h : ((q_pR st).bind fun q => (q_ka q.1.1).bind fun w => g (pc + 1) L (.inl (Int32.ofNat (q_nn n w.2.2)) :: q.2) σ) = some r := h
  obtain ⟨q, e_q, h⟩ := Option.bind_eq_some_iff.mp h
  obtain ⟨w, e_w, h⟩ := Option.bind_eq_some_iff.mp h
  rw [q_pR_s e_q]
  intro H locs ls hP hS hl hL hst
  have hi : (q.1.1, q.1.2) ∈ idj n := q_ok_in hst.1
  obtain ⟨t, ht0, ht⟩ := wl_at (ad := ad) (cn := cj cy ad n σ) hi
  rw [cj_a e_w] at ht
  exact va_alen cx.1 cx.2.1 cx.2.2.2.2.2.1 hP t w.1 ht (q_ty_at cy (q_kaB_at e_w).1) rfl (q_dd ho) (hg _ _ _ _ h H locs ls hP hS hl hL ⟨rfl, hst.2⟩)
end SNH
end
section
/-! Each step of the interpreter is a step of the machine: calls, copies, ends; and the whole run. Ours -/
def q_Q (D : va_G) (cy : Nat → ClassId) (ad : Nat → Nat → Nat) (n : Nat) (A : Nat → Prop) (v : Option Value) (σ : J) : Array Value → State → Outcome → State → Prop := fun _ st o t => o = .returned v ∧ WJ D cy ad n σ t.heap ∧ va_F A st t
def q_CT (l : Launch) (mt : Nat → MRow) (rm : Room) (D : va_G) (cy : Nat → ClassId) (ad : Nat → Nat → Nat) (n : Nat) (A : Nat → Prop) (k : Nat) (vs : List PV) (σ : J) (v : Option PV) (σ1 : J) : Prop :=
  Met l (mt k).1 (Cond.code (mt k).1 (mt k).2.1 (mt k).2.2.1 (mt k).2.2.2 :: gt) rm (va_Pc (vs.map (q_tv ad)) (fun U => WJ D cy ad n σ U.heap ∧ va_K D vcl (q_ty cy) U)) (q_Q D cy ad n A (v.map (q_tv ad)) σ1) 0 0 A
theorem q_oks_iff {n : Nat} {st : List PV} : q_oks n st ↔ ∀ v ∈ st, q_ok n v = true := by
  induction st with
  | nil => simp [q_oks]
  | cons v r ih => simp [q_oks, ih]
theorem q_pop_s : ∀ (j : Nat) {st : List PV} {a : List PV × List PV}, q_pop j st = some a → st = a.1.reverse ++ a.2 ∧ a.1.length = j := by
  intro j
  induction j with
  | zero => intro st a h; cases h; exact ⟨rfl, rfl⟩
  | succ j ih =>
    intro st a h
    match st, h with
    | [], h => cases h
    | v :: r, h =>
      unfold q_pop at h
      cases hq : q_pop j r with
      | none => rw [hq] at h; cases h
      | some q =>
        rw [hq] at h
        cases h
        obtain ⟨e1, e2⟩ := ih hq
        refine ⟨?_, by simp [e2]⟩
        rw [List.reverse_append, e1]
        rfl
theorem q_af_in {n : Nat} {g : List PV → J → Option Res} {rest : List PV} {z r : Res} (h : q_af n g rest z = some r) (hr : ∃ v τ, r = (.inl v, τ)) : ∃ v σ1, z = (.inl v, σ1) ∧ (∀ w, v = some w → q_ok n w = true) ∧ g (v.toList ++ rest) σ1 = some r := by
  obtain ⟨v | ex, σ1⟩ := z
  · cases v with
    | none => exact ⟨none, σ1, rfl, (fun w hw => by cases hw), h⟩
    | some v =>
      obtain ⟨h1, h2⟩ := q_bf (show (bif q_ok n v then g (v :: rest) σ1 else none) = some r from h)
      exact ⟨some v, σ1, rfl, (fun w hw => by cases hw; exact h1), h2⟩
  · have h : some (Sum.inr ex, σ1) = some r := h
    cases h
    obtain ⟨v, τ, e⟩ := hr
    cases e
theorem q_cats (ad : Nat → Nat → Nat) (st : List PV) : ((st.map (q_tv ad)).map fun v => v.category) = st.map q_cat := by
  rw [List.map_map]
  apply List.map_congr_left
  intro v _
  exact q_cat_tv ad v
theorem q_args_in {ad : Nat → Nat → Nat} {vs : List PV} : ∀ {i b : Nat} {v : PV}, q_args i vs b = some v → v ∈ vs ∧ (b, q_tv ad v) ∈ lv_args i (vs.map (q_tv ad)) := by
  induction vs with
  | nil => intro i b v h; cases h
  | cons w r ih =>
    intro i b v h
    have e : lv_args i ((w :: r).map (q_tv ad)) = (i, q_tv ad w) :: lv_args (if (q_tv ad w).category = 2 then i + 2 else i + 1) (r.map (q_tv ad)) := rfl
    rw [e, q_cat_tv]
    replace h : (bif Nat.beq b i then some w else q_args (bif Nat.beq (q_cat w) 2 then i + 2 else i + 1) r b) = some v := h
    cases hb : Nat.beq b i with
    | true =>
      rw [hb] at h
      have h : some w = some v := h
      cases h
      obtain rfl := Nat.eq_of_beq_eq_true hb
      exact ⟨List.mem_cons_self, List.mem_cons_self⟩
    | false =>
      rw [hb] at h
      have h2 := ih h
      refine ⟨List.mem_cons_of_mem _ h2.1, List.mem_cons_of_mem _ ?_⟩
      cases hc : Nat.beq (q_cat w) 2 with
      | true =>
        rw [if_pos (Nat.eq_of_beq_eq_true hc)]
        have h3 := h2.2
        rw [hc] at h3
        exact h3
      | false =>
        rw [if_neg (q_beq_ne hc)]
        have h3 := h2.2
        rw [hc] at h3
        exact h3
theorem q_args_has {ad : Nat → Nat → Nat} {ls : Array Slot} {nL : Nat} {vs : List PV} (h : lv_has ls nL (lv_args 0 (vs.map (q_tv ad)))) : lv_has ls nL (q_ll ad nL (q_args 0 vs)) := by
  refine ⟨h.1, h.2.1, fun q hq => h.2.2 q ?_⟩
  obtain ⟨h1, w, h2, h3⟩ := q_ll_of hq
  obtain ⟨b, u⟩ := q
  dsimp only at h1 h2 h3
  subst h3
  exact (q_args_in h2).2
theorem q_sl_len (vs : List Value) : (lg_sl vs).length = (vs.map fun v => v.category).sum := by
  induction vs with
  | nil => rfl
  | cons v r ih =>
    have e : lg_sl (v :: r) = (if v.category = 2 then [.val v, .second] else [.val v]) ++ lg_sl r := rfl
    rw [e, List.length_append, ih, List.map_cons, List.sum_cons]
    rcases lv_cat v with h | h <;> simp [h]
section SNC
variable {mt : Nat → MRow} {p : Program} {l : Launch} {e : Env} {R : Room} {s : State} {m : MethodId} {args : Array Value} {below : List Frame} {meth : Method} {c : Code} {Q : State → Prop} {D : va_G} {cy : Nat → ClassId} {ad : Nat → Nat → Nat} {n k cells slots pc : Nat} {A : Nat → Prop} {g : Nat → PL → List PV → J → Option Res} {cal : Nat → List PV → J → Option Res} {r : Res} {L : PL} {st : List PV} {σ : J} {ox : Int} {oa ob : Nat} {ol : List Nat}
theorem q_go {H : Heap} {locs : List Loc} {ls : Array Slot} {rest st0 : List Value} {σ1 : J} {v : Option Value} {a : Array Value} (hv : va_Run p l e R s m args below meth c H locs cells slots 0 0 (F0 m pc ls st0) rest (q_Q D cy ad n A v σ1 a) A) (hS : va_S A s.heap H locs)
    (kk : ∀ (H1 : Heap) (locs1 : List Loc), WJ D cy ad n σ1 H1 → va_S A s.heap H1 locs1 → W p l e R s m args below meth c H1 locs1 cells slots Q (F0 m (pc + 3) ls (v.toList ++ rest))) : W p l e R s m args below meth c H locs cells slots Q (F0 m pc ls st0) := by
  intro T hT X
  obtain ⟨v', st₀, t, T', L', h0, X', hL, e1, e2, ⟨hv', hw, hz, hk⟩, st'⟩ := hv T hT X
  cases hv'
  rw [h0] at hz hk
  obtain ⟨t2, a1, b1⟩ := kk T'.heap (locs ++ L') (by rw [e1]; exact hw) ⟨Nat.le_trans hS.1 (by rw [e1]; exact hz), fun q h1 h2 => by
      rw [e1, hk q (Nat.lt_of_lt_of_le h1 hS.1) h2]
      exact hS.2.1 q h1 h2, fun q hq => by
      rcases List.mem_append.mp hq with h | h
      · exact hS.2.2 q h
      · exact hL q h⟩ T' rfl X'
  exact ⟨t2, st' t2 a1, b1⟩
theorem z_67 (cx : q_Cx mt p s m meth c args k D cy n ad A R cells slots) (hg : ∀ pc L st σ, g pc L st σ = some r → q_W mt p l e R s m args below meth c Q D cy ad n A k cells slots pc L st σ) {rm : Room} (hrm : rm.cells = 0 ∧ rm.slots = 0 ∧ rm.frames + 1 ≤ R.frames ∧ 49 + rm.locals ≤ R.locals) (hcl : ∀ k1 vs τ v τ1, cal k1 vs τ = some (.inl v, τ1) → (vs.map q_cat).sum ≤ (mt k1).2.2.1 → q_oks n vs → q_CT l mt rm D cy ad n A k1 vs τ v τ1) (hr : ∃ v τ, r = (.inl v, τ)) (ho : q_okB mt k pc (67, ox, oa, ob, ol) = true) (h : q_stp n g cal pc (67, ox, oa, ob, ol) L st σ = some r) : q_W mt p l e R s m args below meth c Q D cy ad n A k cells slots pc L st σ := by
  replace ho : (q_dc (mt k).2.1 pc (.invokevirtual oa) 3 && q_wd (ol.getD 3 0) (.methodLink (mt k).1.cls oa (mt ob).1) && q_wd (ol.getD 4 0) (.instanceMethod (mt ob).1) && q_wd (ol.getD 5 0) (.selects (q_cl (ol.getD 1 0)).1 (mt ob).1 (mt ob).1) && q_wd (ol.getD 6 0) (.initialized (q_cl (ol.getD 1 0)).1) && q_wd (ol.getD 7 0) (.code (mt ob).1 (mt ob).2.1 (mt ob).2.2.1 (mt ob).2.2.2) && q_ny (mt ob).1 (q_cl (ol.getD 1 0)).1 (ol.getD 0 0) && Nat.ble (mt ob).2.2.1 30 && Nat.ble (ol.getD 2 0 + 1) (mt ob).2.2.1) = true := ho
  simp only [Bool.and_eq_true] at ho
  obtain ⟨⟨⟨⟨⟨⟨⟨⟨o1, o2⟩, o3⟩, o4⟩, o5⟩, o6⟩, o7⟩, o8⟩, o9⟩ := ho
  replace h : ((q_pop (ol.getD 0 0) st).bind fun a => (q_pR a.2).bind fun q => (q_ko q.1.1).bind fun w => bif Nat.beq w.1 (ol.getD 1 0) && (q_rm q.2 && Nat.beq ((a.1.map q_cat).sum) (ol.getD 2 0)) then (cal ob (.inr (.inr (some q.1)) :: a.1) σ).bind (q_af n (fun st' σ' => g (pc + 3) L st' σ') q.2) else none) = some r := h
  obtain ⟨a, e_a, h⟩ := Option.bind_eq_some_iff.mp h
  obtain ⟨q, e_q, h⟩ := Option.bind_eq_some_iff.mp h
  obtain ⟨w, e_w, h⟩ := Option.bind_eq_some_iff.mp h
  obtain ⟨hb, h⟩ := q_bf h
  obtain ⟨z, e_z, h⟩ := Option.bind_eq_some_iff.mp h
  simp only [Bool.and_eq_true] at hb
  obtain ⟨v, σ1, rfl, hv, h⟩ := q_af_in h hr
  obtain ⟨e1, e2⟩ := q_pop_s _ e_a
  rw [q_pR_s e_q] at e1
  have hci := Nat.eq_of_beq_eq_true hb.1
  have hwd := Nat.eq_of_beq_eq_true hb.2.2
  rw [← hci] at o4 o5 o7
  have hc := q_kB_at e_w
  intro H locs ls hP hS hl hL hst
  have hst2 := q_oks_iff.mp hst
  rw [e1] at hst2
  have hq : q_ok n (.inr (.inr (some q.1))) = true := hst2 _ (by simp)
  have hi : (q.1.1, q.1.2) ∈ idj n := q_ok_in hq
  obtain ⟨t, ht0, ht⟩ := wl_at (ad := ad) (cn := cj cy ad n σ) hi
  rw [cj_o e_w] at ht
  have hM := hcl _ _ _ _ _ e_z (by
    have h9 := Nat.le_of_ble_eq_true o9
    show 1 + (a.1.map q_cat).sum ≤ _
    omega) (q_oks_iff.mpr fun x hx => by
    rcases List.mem_cons.mp hx with rfl | hx
    · exact hq
    · exact hst2 x (by simp [hx]))
  have hro : ((q.2.map (q_tv ad)).map fun v => v.category).sum ≤ 8 := by
    rw [q_cats]
    exact Nat.le_of_ble_eq_true hb.2.1
  have h8 := Nat.le_of_ble_eq_true o8
  have hW := va_runV (As := a.1.map (q_tv ad)) (rest := q.2.map (q_tv ad)) (g := F0 m pc ls (st.map (q_tv ad))) (Ts := gt) (locs := locs) (cells := cells) (slots := slots) (below := below) (e := e) (meth := meth) ⟨cx.1, cx.2.1, cx.2.2.1, cx.2.2.2.1, cx.2.2.2.2.1⟩ hM
    (cwV (C := (q_cl w.1).1) (index := oa) (ol.getD 0 0) cx.2.2.2.2.1 (gi_V (q_wd_in o2) (q_wd_in o3) (q_wd_in o4) (q_wd_in o5) (q_wd_in o6)) rfl hrm.1 hrm.2.1 (of_decide_eq_true o7) ⟨hrm.2.2.1, by have := hrm.2.2.2; omega⟩)
    ⟨fun a U g mk z => ⟨z.1, z.2.1, va_K.moved (u := U) (U := U.calling g mk a) (Vm.Alike.refl U.vm) z.2.2⟩, va_recv cx.2.2.2.2.2.1 hP (q_cl_at hc.1) ht, fun U hU hw => ⟨rfl, by rw [hU]; exact hP, va_K.moved hw.alike cx.2.2.2.2.2.1⟩⟩ rfl (by rw [List.length_map]; exact e2) hl.1
    (by show st.map (q_tv ad) = _; rw [e1, List.map_append, List.map_reverse]; rfl) (lv_room hro) (q_dd o1) ⟨cx.2.2.2.2.2.2.2.2.2.2.2.1, cx.2.2.2.2.2.2.2.2.2.2.2.2⟩
  refine q_go hW hS fun H1 locs1 hP1 hS1 => ?_
  have hgo := hg _ _ _ _ h H1 locs1 ls hP1 hS1 hl hL (q_oks_iff.mpr fun x hx => by
    rcases List.mem_append.mp hx with hx | hx
    · exact hv x (by cases v with
        | none => cases hx
        | some y => rw [List.mem_singleton.mp hx])
    · exact hst2 x (by simp [hx]))
  cases v <;> exact hgo
theorem z_68 (cx : q_Cx mt p s m meth c args k D cy n ad A R cells slots) (hg : ∀ pc L st σ, g pc L st σ = some r → q_W mt p l e R s m args below meth c Q D cy ad n A k cells slots pc L st σ) {rm : Room} (hrm : rm.cells = 0 ∧ rm.slots = 0 ∧ rm.frames + 1 ≤ R.frames ∧ 49 + rm.locals ≤ R.locals) (hcl : ∀ k1 vs τ v τ1, cal k1 vs τ = some (.inl v, τ1) → (vs.map q_cat).sum ≤ (mt k1).2.2.1 → q_oks n vs → q_CT l mt rm D cy ad n A k1 vs τ v τ1) (hr : ∃ v τ, r = (.inl v, τ)) (ho : q_okB mt k pc (68, ox, oa, ob, ol) = true) (h : q_stp n g cal pc (68, ox, oa, ob, ol) L st σ = some r) : q_W mt p l e R s m args below meth c Q D cy ad n A k cells slots pc L st σ := by
  replace ho : (q_dc (mt k).2.1 pc (.invokestatic oa) 3 && q_wd (ol.getD 3 0) (.methodLink (mt k).1.cls oa (mt ob).1) && q_wd (ol.getD 4 0) (.static (mt ob).1) && q_wd (ol.getD 6 0) (.initialized (mt k).1.cls) && q_wd (ol.getD 7 0) (.code (mt ob).1 (mt ob).2.1 (mt ob).2.2.1 (mt ob).2.2.2) && q_ny (mt ob).1 (mt k).1.cls (ol.getD 0 0) && Nat.ble (mt ob).2.2.1 30 && Nat.ble (ol.getD 2 0) (mt ob).2.2.1) = true := ho
  simp only [Bool.and_eq_true] at ho
  obtain ⟨⟨⟨⟨⟨⟨⟨o1, o2⟩, o3⟩, o5⟩, o6⟩, o7⟩, o8⟩, o9⟩ := ho
  replace h : ((q_pop (ol.getD 0 0) st).bind fun a => bif q_rm a.2 && Nat.beq ((a.1.map q_cat).sum) (ol.getD 2 0) then (cal ob a.1 σ).bind (q_af n (fun st' σ' => g (pc + 3) L st' σ') a.2) else none) = some r := h
  obtain ⟨a, e_a, h⟩ := Option.bind_eq_some_iff.mp h
  obtain ⟨hb, h⟩ := q_bf h
  obtain ⟨z, e_z, h⟩ := Option.bind_eq_some_iff.mp h
  simp only [Bool.and_eq_true] at hb
  obtain ⟨v, σ1, rfl, hv, h⟩ := q_af_in h hr
  obtain ⟨e1, e2⟩ := q_pop_s _ e_a
  have hwd := Nat.eq_of_beq_eq_true hb.2
  intro H locs ls hP hS hl hL hst
  have hst2 := q_oks_iff.mp hst
  rw [e1] at hst2
  have hM := hcl _ _ _ _ _ e_z (by
    have h9 := Nat.le_of_ble_eq_true o9
    omega) (q_oks_iff.mpr fun x hx => hst2 x (by simp [hx]))
  have hro : ((a.2.map (q_tv ad)).map fun v => v.category).sum ≤ 8 := by
    rw [q_cats]
    exact Nat.le_of_ble_eq_true hb.1
  have h8 := Nat.le_of_ble_eq_true o8
  have hW := va_runS (As := a.1.map (q_tv ad)) (rest := a.2.map (q_tv ad)) (g := F0 m pc ls (st.map (q_tv ad))) (Ts := gt) (locs := locs) (cells := cells) (slots := slots) (below := below) (e := e) (meth := meth) ⟨cx.1, cx.2.1, cx.2.2.1, cx.2.2.2.1, cx.2.2.2.2.1⟩ hM
    (cwS (index := oa) (ol.getD 0 0) cx.2.2.2.2.1 (gi_S (q_wd_in o2) (q_wd_in o3) (q_wd_in o5) (q_wd_in o6)) rfl hrm.1 hrm.2.1 (of_decide_eq_true o7) ⟨hrm.2.2.1, by have := hrm.2.2.2; omega⟩)
    ⟨fun a U g mk z => ⟨z.1, z.2.1, va_K.moved (u := U) (U := U.calling g mk a) (Vm.Alike.refl U.vm) z.2.2⟩, fun U hU hw => ⟨rfl, by rw [hU]; exact hP, va_K.moved hw.alike cx.2.2.2.2.2.1⟩⟩ rfl (by rw [List.length_map]; exact e2) hl.1
    (by show st.map (q_tv ad) = _; rw [e1, List.map_append, List.map_reverse]) (lv_room hro) (q_dd o1) ⟨cx.2.2.2.2.2.2.2.2.2.2.2.1, cx.2.2.2.2.2.2.2.2.2.2.2.2⟩
  refine q_go hW hS fun H1 locs1 hP1 hS1 => ?_
  have hgo := hg _ _ _ _ h H1 locs1 ls hP1 hS1 hl hL (q_oks_iff.mpr fun x hx => by
    rcases List.mem_append.mp hx with hx | hx
    · exact hv x (by cases v with
        | none => cases hx
        | some y => rw [List.mem_singleton.mp hx])
    · exact hst2 x (by simp [hx]))
  cases v <;> exact hgo
theorem z_69 (cx : q_Cx mt p s m meth c args k D cy n ad A R cells slots) (hg : ∀ pc L st σ, g pc L st σ = some r → q_W mt p l e R s m args below meth c Q D cy ad n A k cells slots pc L st σ) (ho : q_okB mt k pc (69, ox, oa, ob, ol) = true) (h : q_stp n g cal pc (69, ox, oa, ob, ol) L st σ = some r) : q_W mt p l e R s m args below meth c Q D cy ad n A k cells slots pc L st σ := by
  replace ho : (q_dc (mt k).2.1 pc (.invokestatic oa) 3 && q_wd (ol.getD 0 0) (.methodLink (mt k).1.cls oa arraycopyName) && q_wd (ol.getD 1 0) (.native arraycopyName) && q_wd (ol.getD 2 0) (.static arraycopyName) && q_wd (ol.getD 3 0) (.initialized "java/lang/System")) = true := ho
  simp only [Bool.and_eq_true] at ho
  obtain ⟨⟨⟨⟨o1, o2⟩, o3⟩, o4⟩, o5⟩ := ho
  replace h : ((q_pI st).bind fun m => (q_pI m.2).bind fun dp => (q_pR dp.2).bind fun b => (q_pI b.2).bind fun sp => (q_pR sp.2).bind fun a => (q_ka a.1.1).bind fun wa => (q_ka b.1.1).bind fun wb => bif q_cpo sp.1 dp.1 m.1 (q_nn n wa.2.2) (q_nn n wb.2.2) && q_rm a.2 then
      bif Nat.beq wa.1 0 && Nat.beq wb.1 0 then g (pc + 3) L a.2 (q_sA σ b.1.1 b.1.2 (va_cpy (σ.2.1 a.1.1 a.1.2) (σ.2.1 b.1.1 b.1.2) sp.1.toNatClampNeg dp.1.toNatClampNeg m.1.toNatClampNeg))
      else bif Nat.beq wa.1 1 && Nat.beq wb.1 1 then g (pc + 3) L a.2 (q_sL σ b.1.1 b.1.2 (va_cpy (σ.2.2.1 a.1.1 a.1.2) (σ.2.2.1 b.1.1 b.1.2) sp.1.toNatClampNeg dp.1.toNatClampNeg m.1.toNatClampNeg)) else none else none) = some r := h
  obtain ⟨many, e_m, h⟩ := Option.bind_eq_some_iff.mp h
  obtain ⟨dp, e_dp, h⟩ := Option.bind_eq_some_iff.mp h
  obtain ⟨b, e_b, h⟩ := Option.bind_eq_some_iff.mp h
  obtain ⟨sp, e_sp, h⟩ := Option.bind_eq_some_iff.mp h
  obtain ⟨a, e_a, h⟩ := Option.bind_eq_some_iff.mp h
  obtain ⟨wa, e_wa, h⟩ := Option.bind_eq_some_iff.mp h
  obtain ⟨wb, e_wb, h⟩ := Option.bind_eq_some_iff.mp h
  obtain ⟨hb, h⟩ := q_bf h
  rw [q_pI_s e_m, q_pI_s e_dp, q_pR_s e_b, q_pI_s e_sp, q_pR_s e_a]
  simp only [q_cpo, Bool.and_eq_true, decide_eq_true_eq] at hb
  obtain ⟨⟨⟨⟨⟨b1, b2⟩, b3⟩, b4⟩, b5⟩, b6⟩ := hb
  intro H locs ls hP hS hl hL hst
  have hia : (a.1.1, a.1.2) ∈ idj n := q_ok_in hst.2.2.2.2.1
  have hib : (b.1.1, b.1.2) ∈ idj n := q_ok_in hst.2.2.1
  obtain ⟨ta, ta0, hta⟩ := wl_at (ad := ad) (cn := cj cy ad n σ) hia
  obtain ⟨tb, tb0, htb⟩ := wl_at (ad := ad) (cn := cj cy ad n σ) hib
  rw [cj_a e_wa] at hta
  rw [cj_a e_wb] at htb
  have hro : ((a.2.map (q_tv ad)).map fun v => v.category).sum ≤ 8 := by
    rw [q_cats]
    exact Nat.le_of_ble_eq_true b6
  have hnw : nativeFrameWords "java/lang/System" "arraycopy" 5 = 7 := by decide
  have h40 := cx.2.2.2.2.2.2.2.2.2.2.1
  have hlo : ((a.2.map (q_tv ad)).map fun v => v.category).sum + (nativeFrameWords "java/lang/System" "arraycopy" 5 + 11) ≤ R.locals := by
    rw [hnw]
    omega
  cases hk : (Nat.beq wa.1 0 && Nat.beq wb.1 0) with
  | true =>
    rw [hk] at h
    simp only [Bool.and_eq_true] at hk
    have w1 : wa.1 = 0 := Nat.eq_of_beq_eq_true hk.1
    have w2 : wb.1 = 0 := Nat.eq_of_beq_eq_true hk.2
    rw [w1] at hta
    rw [w2] at htb
    refine va_copyi cx.1 cx.2.1 (cx.2.2.1.trans hl.1.symm) cx.2.2.2.1 (cx.2.2.2.2.1 _ (q_wd_in o2)) (cx.2.2.2.2.1 _ (q_wd_in o3)) (cx.2.2.2.2.1 _ (q_wd_in o4)) (cx.2.2.2.2.1 _ (q_wd_in o5)) cx.2.2.2.2.2.1 hP (cx.2.2.2.2.2.2.2.2.1 _) hS ta tb 0 0 hta htb rfl rfl rfl b1 b2 b3 (Nat.le_of_ble_eq_true b4) (Nat.le_of_ble_eq_true b5) (fun _ _ => rfl) cx.2.2.2.2.2.2.2.2.2.1 hlo (q_dd o1) (fun H1 locs1 hP1 _ hS1 => ?_)
    rw [wl_set (cx.2.2.2.2.2.2.2.2.1 _) tb0, cj_sA' e_wb w2 (Or.inl rfl)] at hP1
    exact hg _ _ _ _ h H1 locs1 ls hP1 hS1 hl hL hst.2.2.2.2.2
  | false =>
    rw [hk] at h
    obtain ⟨hk, h⟩ := q_bf h
    simp only [Bool.and_eq_true] at hk
    have w1 : wa.1 = 1 := Nat.eq_of_beq_eq_true hk.1
    have w2 : wb.1 = 1 := Nat.eq_of_beq_eq_true hk.2
    rw [w1] at hta
    rw [w2] at htb
    refine va_copyl cx.1 cx.2.1 (cx.2.2.1.trans hl.1.symm) cx.2.2.2.1 (cx.2.2.2.2.1 _ (q_wd_in o2)) (cx.2.2.2.2.1 _ (q_wd_in o3)) (cx.2.2.2.2.1 _ (q_wd_in o4)) (cx.2.2.2.2.1 _ (q_wd_in o5)) cx.2.2.2.2.2.1 hP (cx.2.2.2.2.2.2.2.2.1 _) hS ta tb 1 1 hta htb rfl rfl rfl b1 b2 b3 (Nat.le_of_ble_eq_true b4) (Nat.le_of_ble_eq_true b5) (fun _ _ => rfl) cx.2.2.2.2.2.2.2.2.2.1 hlo (q_dd o1) (fun H1 locs1 hP1 _ hS1 => ?_)
    rw [wl_set (cx.2.2.2.2.2.2.2.2.1 _) tb0, cj_sL' e_wb w2 rfl] at hP1
    exact hg _ _ _ _ h H1 locs1 ls hP1 hS1 hl hL hst.2.2.2.2.2
theorem z_70 (cx : q_Cx mt p s m meth c args k D cy n ad A R cells slots) (hg : ∀ pc L st σ, g pc L st σ = some r → q_W mt p l e R s m args below meth c Q D cy ad n A k cells slots pc L st σ) (ho : q_okB mt k pc (70, ox, oa, ob, ol) = true) (h : q_stp n g cal pc (70, ox, oa, ob, ol) L st σ = some r) : q_W mt p l e R s m args below meth c Q D cy ad n A k cells slots pc L st σ := by
  replace ho : (q_dc (mt k).2.1 pc (.invokestatic oa) 3 && q_wd (ol.getD 0 0) (.methodLink (mt k).1.cls oa Lib.MathLoose.max_long.x) && q_wd (ol.getD 1 0) (.static Lib.MathLoose.max_long.x) && q_wd (ol.getD 2 0) (.initialized "java/lang/Math") && q_wd (ol.getD 3 0) (.code Lib.MathLoose.max_long.x Lib.MathLoose.max_long.code 4 (some .long))) = true := ho
  simp only [Bool.and_eq_true] at ho
  obtain ⟨⟨⟨⟨o1, o2⟩, o3⟩, o4⟩, o5⟩ := ho
  replace h : ((q_pL st).bind fun y => (q_pL y.2).bind fun x => bif q_rm x.2 then g (pc + 3) L (.inr (.inl (if y.1 < x.1 then x.1 else y.1)) :: x.2) σ else none) = some r := h
  obtain ⟨y, e_y, h⟩ := Option.bind_eq_some_iff.mp h
  obtain ⟨x, e_x, h⟩ := Option.bind_eq_some_iff.mp h
  obtain ⟨hb, h⟩ := q_bf h
  rw [q_pL_s e_y, q_pL_s e_x]
  intro H locs ls hP hS hl hL hst
  have hro : ((x.2.map (q_tv ad)).map fun v => v.category).sum ≤ 8 := by
    rw [q_cats]
    exact Nat.le_of_ble_eq_true hb
  have h40 := cx.2.2.2.2.2.2.2.2.2.2.1
  exact va_mmax_long cx.1 cx.2.1 (cx.2.2.1.trans hl.1.symm) cx.2.2.2.1 (cx.2.2.2.2.1 _ (q_wd_in o2)) (cx.2.2.2.2.1 _ (q_wd_in o3)) (cx.2.2.2.2.1 _ (q_wd_in o4)) (cx.2.2.2.2.1 _ (q_wd_in o5)) cx.2.2.2.2.2.2.2.2.2.1 (by omega) cx.2.2.2.2.2.2.2.2.2.2.2.1 cx.2.2.2.2.2.2.2.2.2.2.2.2 (q_dd o1) (hg _ _ _ _ h H locs ls hP hS hl hL ⟨rfl, hst.2.2⟩)
theorem z_71 (cx : q_Cx mt p s m meth c args k D cy n ad A R cells slots) (hg : ∀ pc L st σ, g pc L st σ = some r → q_W mt p l e R s m args below meth c Q D cy ad n A k cells slots pc L st σ) (ho : q_okB mt k pc (71, ox, oa, ob, ol) = true) (h : q_stp n g cal pc (71, ox, oa, ob, ol) L st σ = some r) : q_W mt p l e R s m args below meth c Q D cy ad n A k cells slots pc L st σ := by
  replace ho : (q_dc (mt k).2.1 pc (.invokestatic oa) 3 && q_wd (ol.getD 0 0) (.methodLink (mt k).1.cls oa Lib.MathLoose.min_long.x) && q_wd (ol.getD 1 0) (.static Lib.MathLoose.min_long.x) && q_wd (ol.getD 2 0) (.initialized "java/lang/Math") && q_wd (ol.getD 3 0) (.code Lib.MathLoose.min_long.x Lib.MathLoose.min_long.code 4 (some .long))) = true := ho
  simp only [Bool.and_eq_true] at ho
  obtain ⟨⟨⟨⟨o1, o2⟩, o3⟩, o4⟩, o5⟩ := ho
  replace h : ((q_pL st).bind fun y => (q_pL y.2).bind fun x => bif q_rm x.2 then g (pc + 3) L (.inr (.inl (if y.1 < x.1 then y.1 else x.1)) :: x.2) σ else none) = some r := h
  obtain ⟨y, e_y, h⟩ := Option.bind_eq_some_iff.mp h
  obtain ⟨x, e_x, h⟩ := Option.bind_eq_some_iff.mp h
  obtain ⟨hb, h⟩ := q_bf h
  rw [q_pL_s e_y, q_pL_s e_x]
  intro H locs ls hP hS hl hL hst
  have hro : ((x.2.map (q_tv ad)).map fun v => v.category).sum ≤ 8 := by
    rw [q_cats]
    exact Nat.le_of_ble_eq_true hb
  have h40 := cx.2.2.2.2.2.2.2.2.2.2.1
  exact va_mmin_long cx.1 cx.2.1 (cx.2.2.1.trans hl.1.symm) cx.2.2.2.1 (cx.2.2.2.2.1 _ (q_wd_in o2)) (cx.2.2.2.2.1 _ (q_wd_in o3)) (cx.2.2.2.2.1 _ (q_wd_in o4)) (cx.2.2.2.2.1 _ (q_wd_in o5)) cx.2.2.2.2.2.2.2.2.2.1 (by omega) cx.2.2.2.2.2.2.2.2.2.2.2.1 cx.2.2.2.2.2.2.2.2.2.2.2.2 (q_dd o1) (hg _ _ _ _ h H locs ls hP hS hl hL ⟨rfl, hst.2.2⟩)
theorem z_72 (cx : q_Cx mt p s m meth c args k D cy n ad A R cells slots) (hg : ∀ pc L st σ, g pc L st σ = some r → q_W mt p l e R s m args below meth c Q D cy ad n A k cells slots pc L st σ) (hQ : ∃ v τ, r = (.inl v, τ) ∧ Q = MQ below (q_Q D cy ad n A (v.map (q_tv ad)) τ) args s cells slots A) (ho : q_okB mt k pc (72, ox, oa, ob, ol) = true) (h : q_stp n g cal pc (72, ox, oa, ob, ol) L st σ = some r) : q_W mt p l e R s m args below meth c Q D cy ad n A k cells slots pc L st σ := by
  replace ho : (q_dc (mt k).2.1 pc .ireturn 1 && decide ((mt k).2.2.2 = some .int)) = true := ho
  simp only [Bool.and_eq_true] at ho
  replace h : ((q_pI st).bind fun x => match x.2 with
    | [] => some (.inl (some (.inl x.1)), σ)
    | _ :: _ => none) = some r := h
  obtain ⟨x, e_x, h⟩ := Option.bind_eq_some_iff.mp h
  rw [q_pI_s e_x]
  obtain ⟨x1, x2⟩ := x
  cases x2 with
  | cons _ _ => cases h
  | nil =>
    cases h
    obtain ⟨v, τ, e1, e2⟩ := hQ
    cases e1
    subst e2
    intro H locs ls hP hS hl hL hst
    exact W.iret cx.1 cx.2.1 (cx.2.2.2.2.2.2.1.trans (of_decide_eq_true ho.2)) (fun _ ht _ => ⟨rfl, by rw [ht]; exact hP, hS.F ht⟩) hS.2.2 (q_dd ho.1) cx.2.2.2.2.2.2.2.1

theorem z_73 (cx : q_Cx mt p s m meth c args k D cy n ad A R cells slots) (hg : ∀ pc L st σ, g pc L st σ = some r → q_W mt p l e R s m args below meth c Q D cy ad n A k cells slots pc L st σ) (hQ : ∃ v τ, r = (.inl v, τ) ∧ Q = MQ below (q_Q D cy ad n A (v.map (q_tv ad)) τ) args s cells slots A) (ho : q_okB mt k pc (73, ox, oa, ob, ol) = true) (h : q_stp n g cal pc (73, ox, oa, ob, ol) L st σ = some r) : q_W mt p l e R s m args below meth c Q D cy ad n A k cells slots pc L st σ := by
  replace ho : (q_dc (mt k).2.1 pc .ireturn 1 && decide ((mt k).2.2.2 = some .boolean)) = true := ho
  simp only [Bool.and_eq_true] at ho
  replace h : ((q_pI st).bind fun x => match x.2 with
    | [] => if x.1 &&& 1 = x.1 then some (.inl (some (.inl x.1)), σ) else none
    | _ :: _ => none) = some r := h
  obtain ⟨x, e_x, h⟩ := Option.bind_eq_some_iff.mp h
  rw [q_pI_s e_x]
  obtain ⟨x1, x2⟩ := x
  cases x2 with
  | cons _ _ => cases h
  | nil =>
    replace h : (if x1 &&& 1 = x1 then some (.inl (some (.inl x1)), σ) else none) = some r := h
    by_cases hz : ¬ (x1 &&& 1 = x1)
    · rw [if_neg hz] at h
      cases h
    replace hz := Classical.not_not.mp hz
    rw [if_pos hz] at h
    cases h
    obtain ⟨v, τ, e1, e2⟩ := hQ
    cases e1
    subst e2
    intro H locs ls hP hS hl hL hst
    exact W.zret cx.1 cx.2.1 (cx.2.2.2.2.2.2.1.trans (of_decide_eq_true ho.2)) (q_b1 hz).1 (fun _ ht _ => ⟨rfl, by rw [ht]; exact hP, hS.F ht⟩) hS.2.2 (q_dd ho.1) cx.2.2.2.2.2.2.2.1

theorem z_74 (cx : q_Cx mt p s m meth c args k D cy n ad A R cells slots) (hg : ∀ pc L st σ, g pc L st σ = some r → q_W mt p l e R s m args below meth c Q D cy ad n A k cells slots pc L st σ) (hQ : ∃ v τ, r = (.inl v, τ) ∧ Q = MQ below (q_Q D cy ad n A (v.map (q_tv ad)) τ) args s cells slots A) (ho : q_okB mt k pc (74, ox, oa, ob, ol) = true) (h : q_stp n g cal pc (74, ox, oa, ob, ol) L st σ = some r) : q_W mt p l e R s m args below meth c Q D cy ad n A k cells slots pc L st σ := by
  replace ho : (q_dc (mt k).2.1 pc .lreturn 1 && decide ((mt k).2.2.2 = some .long)) = true := ho
  simp only [Bool.and_eq_true] at ho
  replace h : ((q_pL st).bind fun x => match x.2 with
    | [] => some (.inl (some (.inr (.inl x.1))), σ)
    | _ :: _ => none) = some r := h
  obtain ⟨x, e_x, h⟩ := Option.bind_eq_some_iff.mp h
  rw [q_pL_s e_x]
  obtain ⟨x1, x2⟩ := x
  cases x2 with
  | cons _ _ => cases h
  | nil =>
    cases h
    obtain ⟨v, τ, e1, e2⟩ := hQ
    cases e1
    subst e2
    intro H locs ls hP hS hl hL hst
    exact W.lret cx.1 cx.2.1 (cx.2.2.2.2.2.2.1.trans (of_decide_eq_true ho.2)) (fun _ ht _ => ⟨rfl, by rw [ht]; exact hP, hS.F ht⟩) hS.2.2 (q_dd ho.1) cx.2.2.2.2.2.2.2.1

theorem z_75 (cx : q_Cx mt p s m meth c args k D cy n ad A R cells slots) (hg : ∀ pc L st σ, g pc L st σ = some r → q_W mt p l e R s m args below meth c Q D cy ad n A k cells slots pc L st σ) (hQ : ∃ v τ, r = (.inl v, τ) ∧ Q = MQ below (q_Q D cy ad n A (v.map (q_tv ad)) τ) args s cells slots A) (ho : q_okB mt k pc (75, ox, oa, ob, ol) = true) (h : q_stp n g cal pc (75, ox, oa, ob, ol) L st σ = some r) : q_W mt p l e R s m args below meth c Q D cy ad n A k cells slots pc L st σ := by
  replace ho : (q_dc (mt k).2.1 pc .areturn 1 && (match (mt k).2.2.2 with
    | some (.object _) => true
    | _ => false)) = true := ho
  simp only [Bool.and_eq_true] at ho
  replace h : ((q_pN st).bind fun x => match x.2 with
    | [] => some (.inl (some (.inr (.inr x.1))), σ)
    | _ :: _ => none) = some r := h
  obtain ⟨x, e_x, h⟩ := Option.bind_eq_some_iff.mp h
  rw [q_pN_s e_x]
  obtain ⟨x1, x2⟩ := x
  cases x2 with
  | cons _ _ => cases h
  | nil =>
    obtain ⟨C, hC⟩ : ∃ C, (mt k).2.2.2 = some (.object C) := by
      have h2 := ho.2
      split at h2
      · exact ⟨_, by assumption⟩
      · cases h2
    cases h
    obtain ⟨v, τ, e1, e2⟩ := hQ
    cases e1
    subst e2
    intro H locs ls hP hS hl hL hst
    exact W.aret cx.1 cx.2.1 (cx.2.2.2.2.2.2.1.trans hC) (Or.inl ⟨_, rfl⟩) (by cases x1 with
      | none => exact Or.inl rfl
      | some _ => exact Or.inr ⟨_, rfl⟩) (fun _ ht _ => ⟨rfl, by rw [ht]; exact hP, hS.F ht⟩) hS.2.2 (q_dd ho.1) cx.2.2.2.2.2.2.2.1

theorem z_76 (cx : q_Cx mt p s m meth c args k D cy n ad A R cells slots) (hg : ∀ pc L st σ, g pc L st σ = some r → q_W mt p l e R s m args below meth c Q D cy ad n A k cells slots pc L st σ) (hQ : ∃ v τ, r = (.inl v, τ) ∧ Q = MQ below (q_Q D cy ad n A (v.map (q_tv ad)) τ) args s cells slots A) (ho : q_okB mt k pc (76, ox, oa, ob, ol) = true) (h : q_stp n g cal pc (76, ox, oa, ob, ol) L st σ = some r) : q_W mt p l e R s m args below meth c Q D cy ad n A k cells slots pc L st σ := by
  replace ho : (q_dc (mt k).2.1 pc .return_ 1 && decide ((mt k).2.2.2 = none)) = true := ho
  simp only [Bool.and_eq_true] at ho
  cases st with
  | cons _ _ =>
    replace h : none = some r := h
    cases h
  | nil =>
    replace h : some (Sum.inl none, σ) = some r := h
    cases h
    obtain ⟨v, τ, e1, e2⟩ := hQ
    cases e1
    subst e2
    intro H locs ls hP hS hl hL hst
    exact W.vret cx.1 cx.2.1 (cx.2.2.2.2.2.2.1.trans (of_decide_eq_true ho.2)) (fun _ ht _ => ⟨rfl, by rw [ht]; exact hP, hS.F ht⟩) hS.2.2 (q_dd ho.1) cx.2.2.2.2.2.2.2.1
theorem q_big {ci : Nat} (hc : 77 < ci ∨ ci = 5) : q_stp n g cal pc (ci, ox, oa, ob, ol) L st σ = none := by
  unfold q_stp
  dsimp only
  split <;> first | rfl | (exfalso; omega)
theorem q_all {ci : Nat} (cx : q_Cx mt p s m meth c args k D cy n ad A R cells slots) (hg : ∀ pc L st σ, g pc L st σ = some r → q_W mt p l e R s m args below meth c Q D cy ad n A k cells slots pc L st σ) {rm : Room} (hrm : rm.cells = 0 ∧ rm.slots = 0 ∧ rm.frames + 1 ≤ R.frames ∧ 49 + rm.locals ≤ R.locals) (hcl : ∀ k1 vs τ v τ1, cal k1 vs τ = some (.inl v, τ1) → (vs.map q_cat).sum ≤ (mt k1).2.2.1 → q_oks n vs → q_CT l mt rm D cy ad n A k1 vs τ v τ1) (hQ : ∃ v τ, r = (.inl v, τ) ∧ Q = MQ below (q_Q D cy ad n A (v.map (q_tv ad)) τ) args s cells slots A) (ho : q_okB mt k pc (ci, ox, oa, ob, ol) = true) (h : q_stp n g cal pc (ci, ox, oa, ob, ol) L st σ = some r) : q_W mt p l e R s m args below meth c Q D cy ad n A k cells slots pc L st σ := by
  by_cases hbig : 77 < ci ∨ ci = 5
  · rw [q_big hbig] at h
    cases h
  have hlt : ci < 78 := by omega
  match ci, hlt, ho, h with
  | 0, _, ho, h => exact z_0 cx hg ho h
  | 1, _, ho, h => exact z_1 cx hg ho h
  | 2, _, ho, h => exact z_2 cx hg ho h
  | 3, _, ho, h => exact z_3 cx hg ho h
  | 4, _, ho, h => exact z_4 cx hg ho h
  | 6, _, ho, h => exact z_6 cx hg ho h
  | 7, _, ho, h => exact z_7 cx hg ho h
  | 8, _, ho, h => exact z_8 cx hg ho h
  | 9, _, ho, h => exact z_9 cx hg ho h
  | 10, _, ho, h => exact z_10 cx hg ho h
  | 11, _, ho, h => exact z_11 cx hg ho h
  | 12, _, ho, h => exact z_12 cx hg ho h
  | 13, _, ho, h => exact z_13 cx hg ho h
  | 14, _, ho, h => exact z_14 cx hg ho h
  | 15, _, ho, h => exact z_15 cx hg ho h
  | 16, _, ho, h => exact z_16 cx hg ho h
  | 17, _, ho, h => exact z_17 cx hg ho h
  | 18, _, ho, h => exact z_18 cx hg ho h
  | 19, _, ho, h => exact z_19 cx hg ho h
  | 20, _, ho, h => exact z_20 cx hg ho h
  | 21, _, ho, h => exact z_21 cx hg ho h
  | 22, _, ho, h => exact z_22 cx hg ho h
  | 23, _, ho, h => exact z_23 cx hg ho h
  | 24, _, ho, h => exact z_24 cx hg ho h
  | 25, _, ho, h => exact z_25 cx hg ho h
  | 26, _, ho, h => exact z_26 cx hg ho h
  | 27, _, ho, h => exact z_27 cx hg ho h
  | 28, _, ho, h => exact z_28 cx hg ho h
  | 29, _, ho, h => exact z_29 cx hg ho h
  | 30, _, ho, h => exact z_30 cx hg ho h
  | 31, _, ho, h => exact z_31 cx hg ho h
  | 32, _, ho, h => exact z_32 cx hg ho h
  | 33, _, ho, h => exact z_33 cx hg ho h
  | 34, _, ho, h => exact z_34 cx hg ho h
  | 35, _, ho, h => exact z_35 cx hg ho h
  | 36, _, ho, h => exact z_36 cx hg ho h
  | 37, _, ho, h => exact z_37 cx hg ho h
  | 38, _, ho, h => exact z_38 cx hg ho h
  | 39, _, ho, h => exact z_39 cx hg ho h
  | 40, _, ho, h => exact z_40 cx hg ho h
  | 41, _, ho, h => exact z_41 cx hg ho h
  | 42, _, ho, h => exact z_42 cx hg ho h
  | 43, _, ho, h => exact z_43 cx hg ho h
  | 44, _, ho, h => exact z_44 cx hg ho h
  | 45, _, ho, h => exact z_45 cx hg ho h
  | 46, _, ho, h => exact z_46 cx hg ho h
  | 47, _, ho, h => exact z_47 cx hg ho h
  | 48, _, ho, h => exact z_48 cx hg ho h
  | 49, _, ho, h => exact z_49 cx hg ho h
  | 50, _, ho, h => exact z_50 cx hg ho h
  | 51, _, ho, h => exact z_51 cx hg ho h
  | 52, _, ho, h => exact z_52 cx hg ho h
  | 53, _, ho, h => exact z_53 cx hg ho h
  | 54, _, ho, h => exact z_54 cx hg ho h
  | 55, _, ho, h => exact z_55 cx hg ho h
  | 56, _, ho, h => exact z_56 cx hg ho h
  | 57, _, ho, h => exact z_57 cx hg ho h
  | 58, _, ho, h => exact z_58 cx hg ho h
  | 59, _, ho, h => exact z_59 cx hg ho h
  | 60, _, ho, h => exact z_60 cx hg ho h
  | 61, _, ho, h => exact z_61 cx hg ho h
  | 62, _, ho, h => exact z_62 cx hg ho h
  | 63, _, ho, h => exact z_63 cx hg ho h
  | 64, _, ho, h => exact z_64 cx hg ho h
  | 65, _, ho, h => exact z_65 cx hg ho h
  | 66, _, ho, h => exact z_66 cx hg ho h
  | 67, _, ho, h => exact z_67 cx hg hrm hcl ⟨_, _, hQ.choose_spec.choose_spec.1⟩ ho h
  | 68, _, ho, h => exact z_68 cx hg hrm hcl ⟨_, _, hQ.choose_spec.choose_spec.1⟩ ho h
  | 69, _, ho, h => exact z_69 cx hg ho h
  | 70, _, ho, h => exact z_70 cx hg ho h
  | 71, _, ho, h => exact z_71 cx hg ho h
  | 72, _, ho, h => exact z_72 cx hg hQ ho h
  | 73, _, ho, h => exact z_73 cx hg hQ ho h
  | 74, _, ho, h => exact z_74 cx hg hQ ho h
  | 75, _, ho, h => exact z_75 cx hg hQ ho h
  | 76, _, ho, h => exact z_76 cx hg hQ ho h
  | 5, _, ho, h => exact absurd (Or.inr rfl) hbig
  | 77, _, ho, h =>
    obtain ⟨v, τ, e1, -⟩ := hQ
    cases st with
    | cons _ _ =>
      replace h : none = some r := h
      cases h
    | nil =>
      replace h : some (Sum.inr oa, σ) = some r := h
      cases h
      cases e1
  | _ + 78, hl, _, _ => omega
end SNC
def q_rmd (d : Nat) : Room := { frames := d + 1, cells := 0, slots := 0, locals := 49 * d + 60 }
section RUN
variable {pr : Nat → Nat → Option Op} {mt : Nat → MRow} {n : Nat} {l : Launch} {D : va_G} {cy : Nat → ClassId} {ad : Nat → Nat → Nat} {A : Nat → Prop}
/-- a run of the interpreter that answers is a run of the machine, from any frame on -/
theorem q_frame (hpr : ∀ k pc o, pr k pc = some o → q_okB mt k pc o = true) (d : Nat)
    (hd : ∀ d', d = d' + 1 → ∀ (f k : Nat) (vs : List PV) (σ : J) (v : Option PV) (σ1 : J), q_run pr n d' f k 0 (q_args 0 vs) [] σ = some (.inl v, σ1) → (vs.map q_cat).sum ≤ (mt k).2.2.1 → q_oks n vs → q_CT l mt (q_rmd d') D cy ad n A k vs σ v σ1)
    {p : Program} {e : Env} {R : Room} {s : State} {m : MethodId} {args : Array Value} {below : List Frame} {meth : Method} {c : Code} {k cells slots : Nat} (cx : q_Cx mt p s m meth c args k D cy n ad A R cells slots) (hfr : d + 1 ≤ R.frames) (hlo : 49 * d + 60 ≤ R.locals) {v : Option PV} {σ1 : J} :
    ∀ (f pc : Nat) (L : PL) (st : List PV) (σ : J), q_run pr n d f k pc L st σ = some (.inl v, σ1) → q_W mt p l e R s m args below meth c (MQ below (q_Q D cy ad n A (v.map (q_tv ad)) σ1) args s cells slots A) D cy ad n A k cells slots pc L st σ := by
  intro f
  induction f with
  | zero => intro pc L st σ h; cases h
  | succ f ih =>
    intro pc L st σ h
    unfold q_run at h
    cases ho : pr k pc with
    | none => rw [ho] at h; cases h
    | some o =>
      rw [ho] at h
      obtain ⟨ci, ox, oa, ob, ol⟩ := o
      have hok := hpr k pc _ ho
      cases d with
      | zero => exact q_all (rm := { frames := 0, cells := 0, slots := 0, locals := 0 }) cx ih ⟨rfl, rfl, hfr, by show 49 + 0 ≤ _; omega⟩ (fun _ _ _ _ _ hz => by cases hz) ⟨v, σ1, rfl, rfl⟩ hok h
      | succ d' => exact q_all (rm := q_rmd d') cx ih ⟨rfl, rfl, hfr, by show 49 + (49 * d' + 60) ≤ _; omega⟩ (fun k1 vs τ v τ1 hz => hd d' rfl f k1 vs τ v τ1 hz) ⟨v, σ1, rfl, rfl⟩ hok h
theorem q_met1 (hI : ∀ cn, va_D A (wl (idj n) ad cn)) (hpr : ∀ k pc o, pr k pc = some o → q_okB mt k pc o = true) (hpl : ∀ k, plainName (mt k).1.cls = true) (d : Nat)
    (hd : ∀ d', d = d' + 1 → ∀ (f k : Nat) (vs : List PV) (σ : J) (v : Option PV) (σ1 : J), q_run pr n d' f k 0 (q_args 0 vs) [] σ = some (.inl v, σ1) → (vs.map q_cat).sum ≤ (mt k).2.2.1 → q_oks n vs → q_CT l mt (q_rmd d') D cy ad n A k vs σ v σ1)
    (f k : Nat) (vs : List PV) (σ : J) (v : Option PV) (σ1 : J) (h : q_run pr n d f k 0 (q_args 0 vs) [] σ = some (.inl v, σ1)) (hw : (vs.map q_cat).sum ≤ (mt k).2.2.1) (hk : q_oks n vs) : q_CT l mt (q_rmd d) D cy ad n A k vs σ v σ1 := by
  refine Met.ofW (cc := (mt k).2.1) (maxL := (mt k).2.2.1) (ret := (mt k).2.2.2) (hpl k) rfl ?_
  intro p e s m args below meth c s₁ B hml hv
  obtain ⟨rfl, hP, hK⟩ := hv
  rw [lg_entry_eq]
  have cx : q_Cx mt p s m meth c (vs.map (q_tv ad)).toArray k D cy n ad A (q_rmd d) 0 0 := ⟨B.exec, B.bytes, hml, findClass_of_methodNamed B.named, fun w h => atoms_spec (ws := Cond.code (mt k).1 (mt k).2.1 (mt k).2.2.1 (mt k).2.2.2 :: gt) B.pre w (List.mem_cons_of_mem _ h), hK, B.returns, B.notSynchronized, hI, Nat.le_add_left 1 d, by show 40 ≤ 49 * d + 60; omega, Nat.le_refl 0, Nat.le_refl 0⟩
  have he := lv_entry (vs.map (q_tv ad)) (n := (mt k).2.2.1) (by rw [q_sl_len, q_cats]; exact hw)
  exact q_frame hpr d hd cx (Nat.le_refl _) (Nat.le_refl _) f 0 (q_args 0 vs) [] σ h s.heap [] _ hP va_S.rf (q_args_has he) (fun b w hb => q_oks_iff.mp hk _ (q_args_in (ad := ad) hb).1) trivial
/-- every run of the interpreter that answers is a contract of the machine -/
theorem q_met (hI : ∀ cn, va_D A (wl (idj n) ad cn)) (hpr : ∀ k pc o, pr k pc = some o → q_okB mt k pc o = true) (hpl : ∀ k, plainName (mt k).1.cls = true) :
    ∀ (d f k : Nat) (vs : List PV) (σ : J) (v : Option PV) (σ1 : J), q_run pr n d f k 0 (q_args 0 vs) [] σ = some (.inl v, σ1) → (vs.map q_cat).sum ≤ (mt k).2.2.1 → q_oks n vs → q_CT l mt (q_rmd d) D cy ad n A k vs σ v σ1 := by
  intro d
  induction d with
  | zero => exact q_met1 hI hpr hpl 0 (fun d' h => by omega)
  | succ d ih => exact q_met1 hI hpr hpl (d + 1) (fun d' h => by
      obtain rfl : d = d' := by omega
      exact ih)
end RUN
end
section
/-! More fuel, more depth, more known locals: the run answers the same. Ours, written by mono.py -/
def q_le {α : Type} (a b : Option α) : Prop := ∀ r, a = some r → b = some r
theorem q_le_n {α : Type} {b : Option α} : q_le none b := fun _ h => by cases h
theorem q_le_r {α : Type} {b : Option α} : q_le b b := fun _ h => h
theorem q_le_b {α β : Type} {a : Option α} {f g : α → Option β} (h : ∀ x, q_le (f x) (g x)) : q_le (a.bind f) (a.bind g) := fun r hr => by
  obtain ⟨x, h1, h2⟩ := Option.bind_eq_some_iff.mp hr
  exact Option.bind_eq_some_iff.mpr ⟨x, h1, h x r h2⟩
theorem q_le_bb {α β : Type} {a b : Option α} {f g : α → Option β} (h0 : q_le a b) (h : ∀ x, q_le (f x) (g x)) : q_le (a.bind f) (b.bind g) := fun r hr => by
  obtain ⟨x, h1, h2⟩ := Option.bind_eq_some_iff.mp hr
  exact Option.bind_eq_some_iff.mpr ⟨x, h0 x h1, h x r h2⟩
theorem q_le_c {α : Type} {b : Bool} {x y u v : Option α} (h1 : q_le x u) (h2 : q_le y v) : q_le (bif b then x else y) (bif b then u else v) := by
  cases b with
  | true => exact h1
  | false => exact h2
theorem q_le_i {α : Type} {c : Prop} {d : Decidable c} {x y u v : Option α} (h1 : q_le x u) (h2 : q_le y v) : q_le (@ite (Option α) c d x y) (@ite (Option α) c d u v) := by
  by_cases hc : c
  · rw [if_pos hc, if_pos hc]
    exact h1
  · rw [if_neg hc, if_neg hc]
    exact h2
theorem q_le_sw {g g' : Nat → Option Res} (h : ∀ t, q_le (g t) (g' t)) (x : Int32) (t : Nat) (l : List Nat) : ∀ v, q_le (q_sw g x v l t) (q_sw g' x v l t) := by
  induction l with
  | nil => intro v; exact h t
  | cons u r ih => intro v; exact q_le_i (h u) (ih (v + 1))
theorem q_le_af {n : Nat} {g g' : List PV → J → Option Res} (h : ∀ a b, q_le (g a b) (g' a b)) (rest : List PV) (z : Res) : q_le (q_af n g rest z) (q_af n g' rest z) := by
  match z with
  | (.inl none, σ) => exact h rest σ
  | (.inl (some v), σ) => exact q_le_c (h (v :: rest) σ) q_le_n
  | (.inr e, σ) => exact q_le_r
theorem q_le_m1 {α β : Type} {x : Option α} {a a' : Option β} {b b' : α → Option β} (h1 : q_le a a') (h2 : ∀ y, q_le (b y) (b' y)) : q_le (match x with
  | none => a
  | some y => b y) (match x with
  | none => a'
  | some y => b' y) := by
  cases x with
  | none => exact h1
  | some y => exact h2 y
theorem q_s1_mono {L M : PL} (h : ∀ a, q_le (L a) (M a)) (a : Nat) (v : PV) : ∀ b, q_le (q_s1 L a v b) (q_s1 M a v b) := by
  intro b
  refine q_le_c q_le_r (q_le_c ?_ (h b))
  intro r hr
  cases hL : L b with
  | none => rw [hL] at hr; cases hr
  | some w =>
    rw [hL] at hr
    rw [h b w hL]
    exact hr
theorem q_s2_mono {L M : PL} (h : ∀ a, q_le (L a) (M a)) (a : Nat) (v : PV) : ∀ b, q_le (q_s2 L a v b) (q_s2 M a v b) := by
  intro b
  refine q_le_c q_le_r (q_le_c q_le_r (q_le_c ?_ (h b)))
  intro r hr
  cases hL : L b with
  | none => rw [hL] at hr; cases hr
  | some w =>
    rw [hL] at hr
    rw [h b w hL]
    exact hr
section MONO
variable {n pc : Nat} {g g' : Nat → PL → List PV → J → Option Res} {cal cal' : Nat → List PV → J → Option Res} {L M : PL} {st : List PV} {σ : J} {ox : Int} {oa ob : Nat} {ol : List Nat}
theorem q_mono {ci : Nat} (hg : ∀ pc L M st σ, (∀ a, q_le (L a) (M a)) → q_le (g pc L st σ) (g' pc M st σ)) (hc : ∀ k vs σ, q_le (cal k vs σ) (cal' k vs σ)) (hL : ∀ a, q_le (L a) (M a)) : q_le (q_stp n g cal pc (ci, ox, oa, ob, ol) L st σ) (q_stp n g' cal' pc (ci, ox, oa, ob, ol) M st σ) := by
  by_cases hbig : 77 < ci ∨ ci = 5
  · rw [q_big hbig]
    exact q_le_n
  have hlt : ci < 78 := by omega
  match ci, hlt with
  | 0, _ => exact hg _ _ _ _ _ hL
  | 1, _ => exact hg _ _ _ _ _ hL
  | 2, _ => exact hg _ _ _ _ _ hL
  | 3, _ => exact hg _ _ _ _ _ hL
  | 4, _ => exact hg _ _ _ _ _ hL
  | 6, _ => exact q_le_bb (hL _) fun _ => q_le_b fun _ => hg _ _ _ _ _ hL
  | 7, _ => exact q_le_bb (hL _) fun _ => q_le_b fun _ => hg _ _ _ _ _ hL
  | 8, _ => exact q_le_bb (hL _) fun _ => q_le_b fun _ => hg _ _ _ _ _ hL
  | 9, _ => exact q_le_bb (hL _) fun _ => q_le_b fun _ => hg _ _ _ _ _ hL
  | 10, _ => exact q_le_bb (hL _) fun _ => q_le_b fun _ => hg _ _ _ _ _ hL
  | 11, _ => exact q_le_bb (hL _) fun _ => q_le_b fun _ => hg _ _ _ _ _ hL
  | 12, _ => exact q_le_b fun _ => hg _ _ _ _ _ (q_s1_mono hL _ _)
  | 13, _ => exact q_le_b fun _ => hg _ _ _ _ _ (q_s1_mono hL _ _)
  | 14, _ => exact q_le_b fun _ => hg _ _ _ _ _ (q_s2_mono hL _ _)
  | 15, _ => exact q_le_b fun _ => hg _ _ _ _ _ (q_s2_mono hL _ _)
  | 16, _ => exact q_le_b fun _ => hg _ _ _ _ _ (q_s1_mono hL _ _)
  | 17, _ => exact q_le_b fun _ => hg _ _ _ _ _ (q_s1_mono hL _ _)
  | 18, _ => exact q_le_bb (hL _) fun _ => q_le_b fun _ => hg _ _ _ _ _ (q_s1_mono hL _ _)
  | 19, _ => exact q_le_b fun _ => q_le_b fun _ => hg _ _ _ _ _ hL
  | 20, _ => exact q_le_b fun _ => q_le_b fun _ => hg _ _ _ _ _ hL
  | 21, _ => exact q_le_b fun _ => q_le_b fun _ => hg _ _ _ _ _ hL
  | 22, _ => exact q_le_b fun _ => q_le_b fun _ => q_le_i q_le_n (hg _ _ _ _ _ hL)
  | 23, _ => exact q_le_b fun _ => q_le_b fun _ => hg _ _ _ _ _ hL
  | 24, _ => exact q_le_b fun _ => q_le_b fun _ => hg _ _ _ _ _ hL
  | 25, _ => exact q_le_b fun _ => q_le_b fun _ => hg _ _ _ _ _ hL
  | 26, _ => exact q_le_b fun _ => q_le_b fun _ => hg _ _ _ _ _ hL
  | 27, _ => exact q_le_b fun _ => q_le_b fun _ => hg _ _ _ _ _ hL
  | 28, _ => exact q_le_b fun _ => q_le_b fun _ => hg _ _ _ _ _ hL
  | 29, _ => exact q_le_b fun _ => q_le_b fun _ => hg _ _ _ _ _ hL
  | 30, _ => exact q_le_b fun _ => q_le_b fun _ => hg _ _ _ _ _ hL
  | 31, _ => exact q_le_b fun _ => q_le_b fun _ => hg _ _ _ _ _ hL
  | 32, _ => exact q_le_b fun _ => q_le_b fun _ => hg _ _ _ _ _ hL
  | 33, _ => exact q_le_b fun _ => hg _ _ _ _ _ hL
  | 34, _ => exact q_le_b fun _ => hg _ _ _ _ _ hL
  | 35, _ => exact q_le_b fun _ => q_le_b fun _ => hg _ _ _ _ _ hL
  | 36, _ => exact q_le_b fun _ => hg _ _ _ _ _ hL
  | 37, _ => exact q_le_b fun _ => hg _ _ _ _ _ hL
  | 38, _ => exact q_le_b fun _ => q_le_b fun _ => hg _ _ _ _ _ hL
  | 39, _ => exact hg _ _ _ _ _ hL
  | 40, _ => exact q_le_b fun x => (by obtain ⟨x1, x2⟩ := x; cases x1 <;> exact hg _ _ _ _ _ hL)
  | 41, _ => exact q_le_b fun x => (by obtain ⟨x1, x2⟩ := x; cases x1 <;> exact hg _ _ _ _ _ hL)
  | 42, _ => exact hg _ _ _ _ _ hL
  | 43, _ => exact q_le_b fun _ => q_le_i (hg _ _ _ _ _ hL) (hg _ _ _ _ _ hL)
  | 44, _ => exact q_le_b fun _ => q_le_i (hg _ _ _ _ _ hL) (hg _ _ _ _ _ hL)
  | 45, _ => exact q_le_b fun _ => q_le_i (hg _ _ _ _ _ hL) (hg _ _ _ _ _ hL)
  | 46, _ => exact q_le_b fun _ => q_le_i (hg _ _ _ _ _ hL) (hg _ _ _ _ _ hL)
  | 47, _ => exact q_le_b fun _ => q_le_i (hg _ _ _ _ _ hL) (hg _ _ _ _ _ hL)
  | 48, _ => exact q_le_b fun _ => q_le_i (hg _ _ _ _ _ hL) (hg _ _ _ _ _ hL)
  | 49, _ => exact q_le_b fun _ => q_le_b fun _ => q_le_i (hg _ _ _ _ _ hL) (hg _ _ _ _ _ hL)
  | 50, _ => exact q_le_b fun _ => q_le_b fun _ => q_le_i (hg _ _ _ _ _ hL) (hg _ _ _ _ _ hL)
  | 51, _ => exact q_le_b fun _ => q_le_b fun _ => q_le_i (hg _ _ _ _ _ hL) (hg _ _ _ _ _ hL)
  | 52, _ => exact q_le_b fun _ => q_le_b fun _ => q_le_i (hg _ _ _ _ _ hL) (hg _ _ _ _ _ hL)
  | 53, _ => exact q_le_b fun _ => q_le_b fun _ => q_le_i (hg _ _ _ _ _ hL) (hg _ _ _ _ _ hL)
  | 54, _ => exact q_le_b fun _ => q_le_b fun _ => q_le_i (hg _ _ _ _ _ hL) (hg _ _ _ _ _ hL)
  | 55, _ => exact q_le_b fun _ => q_le_sw (fun _ => hg _ _ _ _ _ hL) _ _ _ _
  | 56, _ => exact q_le_b fun _ => q_le_b fun _ => q_le_c (q_le_b fun _ => hg _ _ _ _ _ hL) q_le_n
  | 57, _ => exact q_le_b fun _ => q_le_b fun _ => q_le_b fun _ => q_le_c (q_le_b fun _ => q_le_c (hg _ _ _ _ _ hL) (q_le_c (q_le_i (hg _ _ _ _ _ hL) q_le_n) q_le_n)) q_le_n
  | 58, _ => exact q_le_b fun _ => q_le_b fun _ => q_le_b fun _ => q_le_c (q_le_c (hg _ _ _ _ _ hL) q_le_n) q_le_n
  | 59, _ => exact q_le_b fun _ => q_le_b fun _ => q_le_b fun _ => q_le_c (q_le_c (hg _ _ _ _ _ hL) q_le_n) q_le_n
  | 60, _ => exact q_le_b fun _ => q_le_b fun _ => q_le_b fun _ => q_le_c (q_le_c (q_le_c (hg _ _ _ _ _ hL) q_le_n) q_le_n) q_le_n
  | 61, _ => exact q_le_b fun _ => q_le_b fun _ => q_le_b fun _ => q_le_c (q_le_c (hg _ _ _ _ _ hL) q_le_n) q_le_n
  | 62, _ => exact q_le_b fun _ => q_le_b fun _ => q_le_b fun _ => q_le_b fun _ => q_le_c (q_le_c (hg _ _ _ _ _ hL) q_le_n) q_le_n
  | 63, _ => exact q_le_b fun _ => q_le_b fun _ => q_le_b fun _ => q_le_b fun _ => q_le_c (q_le_c (hg _ _ _ _ _ hL) q_le_n) q_le_n
  | 64, _ => exact q_le_b fun _ => q_le_b fun _ => q_le_b fun _ => q_le_b fun _ => q_le_c (q_le_c (hg _ _ _ _ _ hL) q_le_n) q_le_n
  | 65, _ => exact q_le_b fun _ => q_le_b fun _ => q_le_b fun _ => q_le_b fun _ => q_le_c (q_le_c (q_le_i (hg _ _ _ _ _ hL) q_le_n) q_le_n) q_le_n
  | 66, _ => exact q_le_b fun _ => q_le_b fun _ => hg _ _ _ _ _ hL
  | 67, _ => exact q_le_b fun _ => q_le_b fun _ => q_le_b fun _ => q_le_c (q_le_bb (hc _ _ _) fun _ => q_le_af (fun _ _ => hg _ _ _ _ _ hL) _ _) q_le_n
  | 68, _ => exact q_le_b fun _ => q_le_c (q_le_bb (hc _ _ _) fun _ => q_le_af (fun _ _ => hg _ _ _ _ _ hL) _ _) q_le_n
  | 69, _ => exact q_le_b fun _ => q_le_b fun _ => q_le_b fun _ => q_le_b fun _ => q_le_b fun _ => q_le_b fun _ => q_le_b fun _ => q_le_c (q_le_c (hg _ _ _ _ _ hL) (q_le_c (hg _ _ _ _ _ hL) q_le_n)) q_le_n
  | 70, _ => exact q_le_b fun _ => q_le_b fun _ => q_le_c (hg _ _ _ _ _ hL) q_le_n
  | 71, _ => exact q_le_b fun _ => q_le_b fun _ => q_le_c (hg _ _ _ _ _ hL) q_le_n
  | 72, _ => exact q_le_r
  | 73, _ => exact q_le_r
  | 74, _ => exact q_le_r
  | 75, _ => exact q_le_r
  | 76, _ => exact q_le_r
  | 77, _ => exact q_le_r
  | 5, _ => exact absurd (Or.inr rfl) hbig
  | _ + 78, hl => omega
theorem q_run_mono {pr : Nat → Nat → Option Op} : ∀ (f f' d d' k pc : Nat) (L M : PL) (st : List PV) (σ : J), f ≤ f' → d ≤ d' → (∀ a, q_le (L a) (M a)) → q_le (q_run pr n d f k pc L st σ) (q_run pr n d' f' k pc M st σ) := by
  intro f
  induction f with
  | zero => intro f' d d' k pc L M st σ _ _ _; exact q_le_n
  | succ f ih =>
    intro f' d d' k pc L M st σ hf hd hL
    cases f' with
    | zero => omega
    | succ f' =>
      unfold q_run
      cases pr k pc with
      | none => exact q_le_r
      | some o =>
        obtain ⟨ci, ox, oa, ob, ol⟩ := o
        refine q_mono (fun pc L M st σ h => ih f' d d' k pc L M st σ (by omega) hd h) (fun k' vs σ' => ?_) hL
        cases d with
        | zero => exact q_le_n
        | succ d =>
          cases d' with
          | zero => omega
          | succ d' => exact ih f' d d' k' 0 _ _ _ _ (by omega) (by omega) (fun _ => q_le_r)
end MONO
/-- the run from here on answers r -/
def q_ex (pr : Nat → Nat → Option Op) (n d k pc : Nat) (L : PL) (st : List PV) (σ : J) (r : Res) : Prop := ∃ f, q_run pr n d f k pc L st σ = some r
theorem q_ex_go {pr : Nat → Nat → Option Op} {n d k pc pc' : Nat} {L L' : PL} {st st' : List PV} {σ σ' : J} {r : Res} (j : Nat) (h : ∀ f, q_run pr n d (f + j) k pc L st σ = q_run pr n d f k pc' L' st' σ') (e : q_ex pr n d k pc' L' st' σ' r) : q_ex pr n d k pc L st σ r := by
  obtain ⟨f, hf⟩ := e
  exact ⟨f + j, (h f).trans hf⟩
theorem q_ex_le {pr : Nat → Nat → Option Op} {n d d' k pc : Nat} {L M : PL} {st : List PV} {σ : J} {r : Res} (hd : d ≤ d') (hL : ∀ a, q_le (L a) (M a)) (e : q_ex pr n d k pc L st σ r) : q_ex pr n d' k pc M st σ r := by
  obtain ⟨f, hf⟩ := e
  exact ⟨f, q_run_mono f f d d' k pc L M st σ (Nat.le_refl _) hd hL r hf⟩
end
section
/-! Runs of the interpreter, step by step: what the written functions lean on. Ours. -/
def q_bs {α β : Type} (a : α) (k : α → β) : β := k a
theorem q_nm {α β : Type} {a : α} {k : α → β} {r : β} {G : α → Prop} (h : q_bs a k = r) (kk : ∀ x : α, k x = r → G x) : G a := kk a h
theorem q_by {α : Type} {c : Prop} {d : Decidable c} {x : Option α} {r : α} {G : Prop} (h : @ite (Option α) c d x none = some r) (k : c → x = some r → G) : G := by
  by_cases hc : c
  · rw [if_pos hc] at h
    exact k hc h
  · rw [if_neg hc] at h
    cases h
theorem q_byn {α : Type} {c : Prop} {d : Decidable c} {x : Option α} {r : α} {G : Prop} (h : @ite (Option α) c d none x = some r) (k : ¬ c → x = some r → G) : G := by
  by_cases hc : c
  · rw [if_pos hc] at h
    cases h
  · rw [if_neg hc] at h
    exact k hc h
theorem q_bt {b : Bool} (h : b = true) : (b && true) = true := by rw [h]; rfl
def q_L : List (Nat × PV) → PL
  | [] => fun _ => none
  | q :: r => fun b => bif Nat.beq b q.1 then some q.2 else q_L r b
def q_Ls (M : PL) : List (Nat × PV) → Prop
  | [] => True
  | q :: r => M q.1 = some q.2 ∧ q_Ls M r
theorem q_L_le {M : PL} : ∀ {l : List (Nat × PV)}, q_Ls M l → ∀ a, q_le (q_L l a) (M a) := by
  intro l
  induction l with
  | nil => intro _ a; exact q_le_n
  | cons q r ih =>
    intro h a
    show q_le (bif Nat.beq a q.1 then some q.2 else q_L r a) (M a)
    cases hb : Nat.beq a q.1 with
    | true =>
      obtain rfl := Nat.eq_of_beq_eq_true hb
      rw [h.1]
      exact q_le_r
    | false => exact ih h.2 a
section EX
variable {pr : Nat → Nat → Option Op} {n d k pc pc' pc1 pc2 : Nat} {L L' : PL} {st st' rest : List PV} {σ σ' σ'' : J} {r : Res}
theorem q_ex_gb (j : Nat) {b : Bool} (h : ∀ f, q_run pr n d (f + j) k pc L st σ = bif b then q_run pr n d f k pc' L' st' σ' else none) (hb : b = true) (e : q_ex pr n d k pc' L' st' σ' r) : q_ex pr n d k pc L st σ r := by
  obtain ⟨f, hf⟩ := e
  refine ⟨f + j, (h f).trans ?_⟩
  rw [hb]
  exact hf
theorem q_ex_gi (j : Nat) {c : Prop} {dc : Decidable c} (h : ∀ f, q_run pr n d (f + j) k pc L st σ = @ite _ c dc (q_run pr n d f k pc' L' st' σ') none) (hb : c) (e : q_ex pr n d k pc' L' st' σ' r) : q_ex pr n d k pc L st σ r := by
  obtain ⟨f, hf⟩ := e
  refine ⟨f + j, (h f).trans ?_⟩
  rw [if_pos hb]
  exact hf
theorem q_ex_gn (j : Nat) {c : Prop} {dc : Decidable c} (h : ∀ f, q_run pr n d (f + j) k pc L st σ = @ite _ c dc none (q_run pr n d f k pc' L' st' σ')) (hb : ¬ c) (e : q_ex pr n d k pc' L' st' σ' r) : q_ex pr n d k pc L st σ r := by
  obtain ⟨f, hf⟩ := e
  refine ⟨f + j, (h f).trans ?_⟩
  rw [if_neg hb]
  exact hf
theorem q_ex_g2 (j : Nat) {b b2 : Bool} (h : ∀ f, q_run pr n d (f + j) k pc L st σ = bif b then (bif b2 then q_run pr n d f k pc' L' st' σ' else none) else none) (hb : b = true) (hb2 : b2 = true) (e : q_ex pr n d k pc' L' st' σ' r) : q_ex pr n d k pc L st σ r := by
  obtain ⟨f, hf⟩ := e
  refine ⟨f + j, (h f).trans ?_⟩
  rw [hb, hb2]
  exact hf
theorem q_ex_gz (j : Nat) {b : Bool} {c : Prop} {dc : Decidable c} (h : ∀ f, q_run pr n d (f + j) k pc L st σ = bif b then (@ite _ c dc (q_run pr n d f k pc' L' st' σ') none) else none) (hb : b = true) (hb2 : c) (e : q_ex pr n d k pc' L' st' σ' r) : q_ex pr n d k pc L st σ r := by
  obtain ⟨f, hf⟩ := e
  refine ⟨f + j, (h f).trans ?_⟩
  rw [hb, if_pos hb2]
  exact hf
theorem q_ex_br (j : Nat) {c : Prop} {dc : Decidable c} (h : ∀ f, q_run pr n d (f + j) k pc L st σ = @ite _ c dc (q_run pr n d f k pc1 L' st' σ') (q_run pr n d f k pc2 L' st' σ')) (h1 : c → q_ex pr n d k pc1 L' st' σ' r) (h2 : ¬ c → q_ex pr n d k pc2 L' st' σ' r) : q_ex pr n d k pc L st σ r := by
  by_cases hc : c
  · obtain ⟨f, hf⟩ := h1 hc
    exact ⟨f + j, (h f).trans ((if_pos hc).trans hf)⟩
  · obtain ⟨f, hf⟩ := h2 hc
    exact ⟨f + j, (h f).trans ((if_neg hc).trans hf)⟩
def q_exsw (pr : Nat → Nat → Option Op) (n d k : Nat) (L : PL) (st : List PV) (σ : J) (r : Res) (x : Int32) (lo : Nat) (ts : List Nat) (t : Nat) : Prop := ∃ f, q_sw (fun t => q_run pr n d f k t L st σ) x lo ts t = some r
theorem q_ex_sw (j : Nat) {x : Int32} {lo t : Nat} {ts : List Nat} (h : ∀ f, q_run pr n d (f + j) k pc L st σ = q_sw (fun t => q_run pr n d f k t L' st' σ') x lo ts t) (e : q_exsw pr n d k L' st' σ' r x lo ts t) : q_ex pr n d k pc L st σ r := by
  obtain ⟨f, hf⟩ := e
  exact ⟨f + j, (h f).trans hf⟩
theorem q_sw_c {x : Int32} {lo t u : Nat} {ts : List Nat} (h1 : x = Int32.ofNat lo → q_ex pr n d k u L st σ r) (h2 : ¬ x = Int32.ofNat lo → q_exsw pr n d k L st σ r x (lo + 1) ts t) : q_exsw pr n d k L st σ r x lo (u :: ts) t := by
  by_cases hc : x = Int32.ofNat lo
  · obtain ⟨f, hf⟩ := h1 hc
    exact ⟨f, (if_pos hc).trans hf⟩
  · obtain ⟨f, hf⟩ := h2 hc
    exact ⟨f, (if_neg hc).trans hf⟩
theorem q_sw_d {x : Int32} {lo t : Nat} (h : q_ex pr n d k t L st σ r) : q_exsw pr n d k L st σ r x lo [] t := h
def q_okr (n : Nat) (v : Option PV) : Bool := match v with
  | none => true
  | some w => q_ok n w
theorem q_ex_ca (j : Nat) {k1 : Nat} {vs : List PV} {v : Option PV} (h : ∀ f, q_run pr n (d + 1) (f + j) k pc L st σ = (q_run pr n d f k1 0 (q_args 0 vs) [] σ').bind (q_af n (fun st2 σ2 => q_run pr n (d + 1) f k pc' L' st2 σ2) rest)) (hc : q_ex pr n d k1 0 (q_args 0 vs) [] σ' (.inl v, σ'')) (hv : q_okr n v = true) (e : q_ex pr n (d + 1) k pc' L' (v.toList ++ rest) σ'' r) : q_ex pr n (d + 1) k pc L st σ r := by
  obtain ⟨f1, h1⟩ := hc
  obtain ⟨f2, h2⟩ := e
  refine ⟨max f1 f2 + j, (h _).trans ?_⟩
  rw [q_run_mono f1 (max f1 f2) d d k1 0 _ _ _ _ (Nat.le_max_left _ _) (Nat.le_refl _) (fun _ => q_le_r) _ h1]
  have h3 := q_run_mono f2 (max f1 f2) (d + 1) (d + 1) k pc' _ _ _ _ (Nat.le_max_right _ _) (Nat.le_refl _) (fun _ => q_le_r) _ h2
  cases v with
  | none => exact h3
  | some w =>
    show (bif q_ok n w then _ else none) = _
    rw [show q_ok n w = true from hv]
    exact h3
theorem q_ex_cx (j : Nat) {k1 ex : Nat} {vs : List PV} (h : ∀ f, q_run pr n (d + 1) (f + j) k pc L st σ = (q_run pr n d f k1 0 (q_args 0 vs) [] σ').bind (q_af n (fun st2 σ2 => q_run pr n (d + 1) f k pc' L' st2 σ2) rest)) (hc : q_ex pr n d k1 0 (q_args 0 vs) [] σ' (.inr ex, σ'')) : q_ex pr n (d + 1) k pc L st σ (.inr ex, σ'') := by
  obtain ⟨f1, h1⟩ := hc
  refine ⟨f1 + j, (h _).trans ?_⟩
  rw [h1]
  rfl
end EX
end
