/-! What an instruction of the tables must be, checked by program; facts of the tables of kinds. Ours. -/
def q_wd (pl : Nat) (w : Cond) : Bool := decide (lw_tbl[pl]? = some w) && goodWord w
theorem q_wd_in {pl : Nat} {w : Cond} (h : q_wd pl w = true) : w ∈ gt := by
  unfold q_wd at h
  rw [Bool.and_eq_true] at h
  exact gt_of (List.mem_of_getElem? (of_decide_eq_true h.1)) h.2
def q_dc (cc : ByteArray) (pc : Nat) (i : Instr) (len : Nat) : Bool := decide (decode cc pc = .ok (i, len))
theorem q_dd {cc : ByteArray} {pc : Nat} {i : Instr} {len : Nat} (h : q_dc cc pc i len = true) : decode cc pc = .ok (i, len) := of_decide_eq_true h
def q_cl (ci : Nat) : vw_C := vcl.getD ci ("", fun _ => ("", "", "", false), 0)
def q_ny (y : MethodName) (C : String) (na : Nat) : Bool := decide (y.cls = C ∧ y.cls ≠ "java/lang/invoke/MethodHandle" ∧ y.cls ≠ "java/lang/invoke/VarHandle" ∧ (parseMethodDescriptor y.desc).map (fun d => d.parameters.length) = some na)
def q_tg (pc : Nat) (x : Int) (a : Nat) : Bool := decide ((pc : Int) + x = (a : Int))
def q_okB (mt : Nat → MRow) (k pc : Nat) (o : Op) : Bool := match o.1 with
  | 0 => q_dc (mt k).2.1 pc (.iconst o.2.1) 1
  | 1 => q_dc (mt k).2.1 pc (.bipush o.2.1) 2 && decide ((Int8.ofInt o.2.1).toInt32 = Int32.ofInt o.2.1)
  | 2 => q_dc (mt k).2.1 pc (.sipush o.2.1) 3 && decide ((Int16.ofInt o.2.1).toInt32 = Int32.ofInt o.2.1)
  | 3 => q_dc (mt k).2.1 pc (.lconst (Fin.ofNat 2 o.2.2.1)) 1 && decide (Int64.ofNat ((Fin.ofNat 2 o.2.2.1 : Fin 2) : Nat) = Int64.ofInt o.2.1)
  | 4 => q_dc (mt k).2.1 pc (.ldc2_w o.2.2.1) 3 && q_wd o.2.2.2.1 (.constantLong (mt k).1.cls o.2.2.1 (Int64.ofInt o.2.1))
  | 6 => q_dc (mt k).2.1 pc (.iload_n (Fin.ofNat 4 o.2.2.1)) 1 && decide (((Fin.ofNat 4 o.2.2.1 : Fin 4) : Nat) = o.2.2.1) && Nat.blt o.2.2.1 (mt k).2.2.1
  | 7 => q_dc (mt k).2.1 pc (.iload o.2.2.1) 2 && Nat.blt o.2.2.1 (mt k).2.2.1
  | 8 => q_dc (mt k).2.1 pc (.lload_n (Fin.ofNat 4 o.2.2.1)) 1 && decide (((Fin.ofNat 4 o.2.2.1 : Fin 4) : Nat) = o.2.2.1) && Nat.blt o.2.2.1 (mt k).2.2.1
  | 9 => q_dc (mt k).2.1 pc (.lload o.2.2.1) 2 && Nat.blt o.2.2.1 (mt k).2.2.1
  | 10 => q_dc (mt k).2.1 pc (.aload_n (Fin.ofNat 4 o.2.2.1)) 1 && decide (((Fin.ofNat 4 o.2.2.1 : Fin 4) : Nat) = o.2.2.1) && Nat.blt o.2.2.1 (mt k).2.2.1
  | 11 => q_dc (mt k).2.1 pc (.aload o.2.2.1) 2 && Nat.blt o.2.2.1 (mt k).2.2.1
  | 12 => q_dc (mt k).2.1 pc (.istore_n (Fin.ofNat 4 o.2.2.1)) 1 && decide (((Fin.ofNat 4 o.2.2.1 : Fin 4) : Nat) = o.2.2.1) && Nat.blt o.2.2.1 (mt k).2.2.1
  | 13 => q_dc (mt k).2.1 pc (.istore o.2.2.1) 2 && Nat.blt o.2.2.1 (mt k).2.2.1
  | 14 => q_dc (mt k).2.1 pc (.lstore_n (Fin.ofNat 4 o.2.2.1)) 1 && decide (((Fin.ofNat 4 o.2.2.1 : Fin 4) : Nat) = o.2.2.1) && Nat.blt (o.2.2.1 + 1) (mt k).2.2.1
  | 15 => q_dc (mt k).2.1 pc (.lstore o.2.2.1) 2 && Nat.blt (o.2.2.1 + 1) (mt k).2.2.1
  | 16 => q_dc (mt k).2.1 pc (.astore_n (Fin.ofNat 4 o.2.2.1)) 1 && decide (((Fin.ofNat 4 o.2.2.1 : Fin 4) : Nat) = o.2.2.1) && Nat.blt o.2.2.1 (mt k).2.2.1
  | 17 => q_dc (mt k).2.1 pc (.astore o.2.2.1) 2 && Nat.blt o.2.2.1 (mt k).2.2.1
  | 18 => q_dc (mt k).2.1 pc (.iinc o.2.2.1 o.2.1) 3 && Nat.blt o.2.2.1 (mt k).2.2.1
  | 19 => q_dc (mt k).2.1 pc .iadd 1
  | 20 => q_dc (mt k).2.1 pc .isub 1
  | 21 => q_dc (mt k).2.1 pc .imul 1
  | 22 => q_dc (mt k).2.1 pc .irem 1
  | 23 => q_dc (mt k).2.1 pc .iand 1
  | 24 => q_dc (mt k).2.1 pc .ior 1
  | 25 => q_dc (mt k).2.1 pc .ishl 1
  | 26 => q_dc (mt k).2.1 pc .ishr 1
  | 27 => q_dc (mt k).2.1 pc .ladd 1
  | 28 => q_dc (mt k).2.1 pc .land 1
  | 29 => q_dc (mt k).2.1 pc .lor 1
  | 30 => q_dc (mt k).2.1 pc .lshl 1
  | 31 => q_dc (mt k).2.1 pc .lshr 1
  | 32 => q_dc (mt k).2.1 pc .lushr 1
  | 33 => q_dc (mt k).2.1 pc .i2l 1
  | 34 => q_dc (mt k).2.1 pc .l2i 1
  | 35 => q_dc (mt k).2.1 pc .lcmp 1
  | 36 => q_dc (mt k).2.1 pc .dup 1
  | 37 => q_dc (mt k).2.1 pc .pop 1
  | 38 => q_dc (mt k).2.1 pc .dup2 1
  | 39 => q_dc (mt k).2.1 pc .aconst_null 1
  | 40 => q_dc (mt k).2.1 pc (.ifnull o.2.1) 3 && q_tg pc o.2.1 o.2.2.1
  | 41 => q_dc (mt k).2.1 pc (.ifnonnull o.2.1) 3 && q_tg pc o.2.1 o.2.2.1
  | 42 => q_dc (mt k).2.1 pc (.goto o.2.1) 3 && q_tg pc o.2.1 o.2.2.1
  | 43 => q_dc (mt k).2.1 pc (.ifCond .eq o.2.1) 3 && q_tg pc o.2.1 o.2.2.1
  | 44 => q_dc (mt k).2.1 pc (.ifCond .ne o.2.1) 3 && q_tg pc o.2.1 o.2.2.1
  | 45 => q_dc (mt k).2.1 pc (.ifCond .lt o.2.1) 3 && q_tg pc o.2.1 o.2.2.1
  | 46 => q_dc (mt k).2.1 pc (.ifCond .ge o.2.1) 3 && q_tg pc o.2.1 o.2.2.1
  | 47 => q_dc (mt k).2.1 pc (.ifCond .gt o.2.1) 3 && q_tg pc o.2.1 o.2.2.1
  | 48 => q_dc (mt k).2.1 pc (.ifCond .le o.2.1) 3 && q_tg pc o.2.1 o.2.2.1
  | 49 => q_dc (mt k).2.1 pc (.if_icmp .eq o.2.1) 3 && q_tg pc o.2.1 o.2.2.1
  | 50 => q_dc (mt k).2.1 pc (.if_icmp .ne o.2.1) 3 && q_tg pc o.2.1 o.2.2.1
  | 51 => q_dc (mt k).2.1 pc (.if_icmp .lt o.2.1) 3 && q_tg pc o.2.1 o.2.2.1
  | 52 => q_dc (mt k).2.1 pc (.if_icmp .ge o.2.1) 3 && q_tg pc o.2.1 o.2.2.1
  | 53 => q_dc (mt k).2.1 pc (.if_icmp .gt o.2.1) 3 && q_tg pc o.2.1 o.2.2.1
  | 54 => q_dc (mt k).2.1 pc (.if_icmp .le o.2.1) 3 && q_tg pc o.2.1 o.2.2.1
  | 55 => q_dc (mt k).2.1 pc (.tableswitch o.2.1 (o.2.2.1 : Int) ((o.2.2.1 + o.2.2.2.2.tail.length : Int) - 1) ((o.2.2.2.2.tail.map fun (t : Nat) => (t : Int) - (pc : Int)).toArray)) (o.2.2.2.2.getD 0 0) && q_tg pc o.2.1 o.2.2.2.1 && Nat.blt (o.2.2.1 + o.2.2.2.2.tail.length) 1000
  | 56 => q_dc (mt k).2.1 pc (.getfield o.2.2.1) 3 && q_wd (o.2.2.2.2.getD 1 0) (.fieldLink (mt k).1.cls o.2.2.1 ((q_cl (o.2.2.2.2.getD 0 0)).2.1 o.2.2.2.1).1 ((q_cl (o.2.2.2.2.getD 0 0)).2.1 o.2.2.2.1).2.1 ((q_cl (o.2.2.2.2.getD 0 0)).2.1 o.2.2.2.1).2.2.1)
  | 57 => q_dc (mt k).2.1 pc (.putfield o.2.2.1) 3 && q_wd (o.2.2.2.2.getD 1 0) (.fieldLink (mt k).1.cls o.2.2.1 ((q_cl (o.2.2.2.2.getD 0 0)).2.1 o.2.2.2.1).1 ((q_cl (o.2.2.2.2.getD 0 0)).2.1 o.2.2.2.1).2.1 ((q_cl (o.2.2.2.2.getD 0 0)).2.1 o.2.2.2.1).2.2.1) && !((q_cl (o.2.2.2.2.getD 0 0)).2.1 o.2.2.2.1).2.2.2
  | 58 => q_dc (mt k).2.1 pc .iaload 1
  | 59 => q_dc (mt k).2.1 pc .laload 1
  | 60 => q_dc (mt k).2.1 pc .aaload 1
  | 61 => q_dc (mt k).2.1 pc .baload 1
  | 62 => q_dc (mt k).2.1 pc .iastore 1
  | 63 => q_dc (mt k).2.1 pc .lastore 1
  | 64 => q_dc (mt k).2.1 pc .aastore 1
  | 65 => q_dc (mt k).2.1 pc .bastore 1
  | 66 => q_dc (mt k).2.1 pc .arraylength 1
  | 67 => q_dc (mt k).2.1 pc (.invokevirtual o.2.2.1) 3 && q_wd (o.2.2.2.2.getD 3 0) (.methodLink (mt k).1.cls o.2.2.1 (mt o.2.2.2.1).1) && q_wd (o.2.2.2.2.getD 4 0) (.instanceMethod (mt o.2.2.2.1).1) && q_wd (o.2.2.2.2.getD 5 0) (.selects (q_cl (o.2.2.2.2.getD 1 0)).1 (mt o.2.2.2.1).1 (mt o.2.2.2.1).1) && q_wd (o.2.2.2.2.getD 6 0) (.initialized (q_cl (o.2.2.2.2.getD 1 0)).1) && q_wd (o.2.2.2.2.getD 7 0) (.code (mt o.2.2.2.1).1 (mt o.2.2.2.1).2.1 (mt o.2.2.2.1).2.2.1 (mt o.2.2.2.1).2.2.2) && q_ny (mt o.2.2.2.1).1 (q_cl (o.2.2.2.2.getD 1 0)).1 (o.2.2.2.2.getD 0 0) && Nat.ble (mt o.2.2.2.1).2.2.1 30 && Nat.ble (o.2.2.2.2.getD 2 0 + 1) (mt o.2.2.2.1).2.2.1
  | 68 => q_dc (mt k).2.1 pc (.invokestatic o.2.2.1) 3 && q_wd (o.2.2.2.2.getD 3 0) (.methodLink (mt k).1.cls o.2.2.1 (mt o.2.2.2.1).1) && q_wd (o.2.2.2.2.getD 4 0) (.static (mt o.2.2.2.1).1) && q_wd (o.2.2.2.2.getD 6 0) (.initialized (mt o.2.2.2.1).1.cls) && q_wd (o.2.2.2.2.getD 7 0) (.code (mt o.2.2.2.1).1 (mt o.2.2.2.1).2.1 (mt o.2.2.2.1).2.2.1 (mt o.2.2.2.1).2.2.2) && q_ny (mt o.2.2.2.1).1 (mt o.2.2.2.1).1.cls (o.2.2.2.2.getD 0 0) && Nat.ble (mt o.2.2.2.1).2.2.1 30 && Nat.ble (o.2.2.2.2.getD 2 0) (mt o.2.2.2.1).2.2.1
  | 69 => q_dc (mt k).2.1 pc (.invokestatic o.2.2.1) 3 && q_wd (o.2.2.2.2.getD 0 0) (.methodLink (mt k).1.cls o.2.2.1 arraycopyName) && q_wd (o.2.2.2.2.getD 1 0) (.native arraycopyName) && q_wd (o.2.2.2.2.getD 2 0) (.static arraycopyName) && q_wd (o.2.2.2.2.getD 3 0) (.initialized "java/lang/System")
  | 70 => q_dc (mt k).2.1 pc (.invokestatic o.2.2.1) 3 && q_wd (o.2.2.2.2.getD 0 0) (.methodLink (mt k).1.cls o.2.2.1 Lib.MathLoose.max_long.x) && q_wd (o.2.2.2.2.getD 1 0) (.static Lib.MathLoose.max_long.x) && q_wd (o.2.2.2.2.getD 2 0) (.initialized "java/lang/Math") && q_wd (o.2.2.2.2.getD 3 0) (.code Lib.MathLoose.max_long.x Lib.MathLoose.max_long.code 4 (some .long))
  | 71 => q_dc (mt k).2.1 pc (.invokestatic o.2.2.1) 3 && q_wd (o.2.2.2.2.getD 0 0) (.methodLink (mt k).1.cls o.2.2.1 Lib.MathLoose.min_long.x) && q_wd (o.2.2.2.2.getD 1 0) (.static Lib.MathLoose.min_long.x) && q_wd (o.2.2.2.2.getD 2 0) (.initialized "java/lang/Math") && q_wd (o.2.2.2.2.getD 3 0) (.code Lib.MathLoose.min_long.x Lib.MathLoose.min_long.code 4 (some .long))
  | 72 => q_dc (mt k).2.1 pc .ireturn 1 && decide ((mt k).2.2.2 = some .int)
  | 73 => q_dc (mt k).2.1 pc .ireturn 1 && decide ((mt k).2.2.2 = some .boolean)
  | 74 => q_dc (mt k).2.1 pc .lreturn 1 && decide ((mt k).2.2.2 = some .long)
  | 75 => q_dc (mt k).2.1 pc .areturn 1 && (match (mt k).2.2.2 with
    | some (.object _) => true
    | _ => false)
  | 76 => q_dc (mt k).2.1 pc .return_ 1 && decide ((mt k).2.2.2 = none)
  | 77 => decide ((mt k).1.cls = "JobBoard") && q_dc (mt k).2.1 pc (.new (q_xc o.2.2.1)) 3 && q_dc (mt k).2.1 (pc + 3) .dup 1 && q_dc (mt k).2.1 (pc + 4) (.invokespecial (q_xi o.2.2.1)) 3 && q_dc (mt k).2.1 (pc + 7) .athrow 1 && Nat.ble 1 o.2.2.1 && Nat.ble o.2.2.1 4
  | _ => true
-- facts of the tables of kinds
def q_clB (k : Nat) (d : Nat × Nat × Nat) : Bool := Nat.blt d.1 2 || (match d.2.2 with
  | 0 => Nat.ble 1 (q_ctt.getD d.2.1 (0, 0)).1
  | 1 => Nat.ble (q_ctt.getD k (0, 0)).1 (q_ctt.getD d.2.1 (0, 0)).1 && Nat.ble (q_ctt.getD k (0, 0)).2 (q_ctt.getD d.2.1 (0, 0)).2
  | 2 => Nat.ble (20 + (q_ctt.getD k (0, 0)).1) (q_ctt.getD d.2.1 (0, 0)).1 && Nat.ble (q_ctt.getD k (0, 0)).2 (q_ctt.getD d.2.1 (0, 0)).2
  | _ => Nat.ble ((q_ctt.getD k (0, 0)).1 + 1) (q_ctt.getD d.2.1 (0, 0)).1 && Nat.ble (q_ctt.getD k (0, 0)).2 (q_ctt.getD d.2.1 (0, 0)).2)
def q_kB (k : Nat) : Bool := match q_ko k with
  | none => true
  | some w => Nat.blt w.1 vcl.length && Nat.beq w.2.length (q_cl w.1).2.2 && w.2.all (q_clB k) && (List.range w.2.length).all (fun f => match w.2[f]? with
    | some (0, _) => decide (((q_cl w.1).2.1 f).2.2.1 = "I")
    | some (1, _) => decide (((q_cl w.1).2.1 f).2.2.1 = "Z")
    | _ => true)
theorem q_kB_all : (List.range q_kot.length).all q_kB = true := by decide +kernel
theorem q_kB_at {k : Nat} {w : Nat × List (Nat × Nat × Nat)} (h : q_ko k = some w) : w.1 < vcl.length ∧ w.2.length = (q_cl w.1).2.2 ∧ (∀ d ∈ w.2, q_clB k d = true) ∧ ∀ (f : Nat) (d : Nat × Nat × Nat), w.2[f]? = some d → (d.1 = 0 → ((q_cl w.1).2.1 f).2.2.1 = "I") ∧ (d.1 = 1 → ((q_cl w.1).2.1 f).2.2.1 = "Z") := by
  have h1 := List.all_eq_true.mp q_kB_all k (List.mem_range.mpr (q_ko_lt h))
  unfold q_kB at h1
  rw [h] at h1
  simp only [Bool.and_eq_true] at h1
  obtain ⟨⟨⟨a1, a2⟩, a3⟩, a4⟩ := h1
  refine ⟨Nat.blt_eq.mp a1, Nat.eq_of_beq_eq_true a2, fun d hd => List.all_eq_true.mp a3 d hd, fun f d hd => ?_⟩
  have h5 := List.all_eq_true.mp a4 f (List.mem_range.mpr (List.getElem?_eq_some_iff.mp hd).1)
  rw [hd] at h5
  obtain ⟨t, d2⟩ := d
  constructor
  · rintro rfl
    exact of_decide_eq_true h5
  · rintro rfl
    exact of_decide_eq_true h5
theorem q_nn_le {n a b a' b' : Nat} (h1 : a ≤ a') (h2 : b ≤ b') : q_nn n (a, b) ≤ q_nn n (a', b') := by
  match b, b', h2 with
  | 0, 0, _ => exact h1
  | 0, 1, _ => show a ≤ a' + n; omega
  | 0, _ + 2, _ => show a ≤ a' + 3 * n; omega
  | 1, 1, _ => show a + n ≤ a' + n; omega
  | 1, _ + 2, _ => show a + n ≤ a' + 3 * n; omega
  | _ + 2, _ + 2, _ => show a + 3 * n ≤ a' + 3 * n; omega
theorem q_nn_ge {n a b : Nat} : a ≤ q_nn n (a, b) := by
  match b with
  | 0 => exact Nat.le_refl _
  | 1 => exact Nat.le_add_right _ _
  | _ + 2 => exact Nat.le_add_right _ _
theorem q_nn_add {n a b c : Nat} : q_nn n (a, b) + c = q_nn n (a + c, b) := by
  match b with
  | 0 => rfl
  | 1 => show a + n + c = a + c + n; omega
  | _ + 2 => show a + 3 * n + c = a + c + 3 * n; omega
theorem q_clo {n k i : Nat} {d : Nat × Nat × Nat} (hi : i < q_ct n k) (hd : q_clB k d = true) (h2 : ¬ d.1 < 2) : q_ix d.2.2 i < q_ct n d.2.1 := by
  unfold q_clB at hd
  rw [Bool.or_eq_true] at hd
  rcases hd with hd | hd
  · exact absurd (Nat.blt_eq.mp hd) h2
  obtain ⟨t, k', c⟩ := d
  unfold q_ct at hi ⊢
  generalize q_ctt.getD k (0, 0) = ab at hi hd
  dsimp only at hd ⊢
  generalize q_ctt.getD k' (0, 0) = ab' at hd ⊢
  obtain ⟨a, b⟩ := ab
  obtain ⟨a', b'⟩ := ab'
  have g := q_nn_ge (n := n) (a := a') (b := b')
  match c with
  | 0 =>
    have h := Nat.le_of_ble_eq_true hd
    show 0 < _
    dsimp only at h
    omega
  | 1 =>
    simp only [Bool.and_eq_true] at hd
    exact Nat.lt_of_lt_of_le hi (q_nn_le (Nat.le_of_ble_eq_true hd.1) (Nat.le_of_ble_eq_true hd.2))
  | 2 =>
    simp only [Bool.and_eq_true] at hd
    have h := q_nn_le (n := n) (Nat.le_of_ble_eq_true hd.1) (Nat.le_of_ble_eq_true hd.2)
    have e := q_nn_add (n := n) (a := a) (b := b) (c := 20)
    rw [Nat.add_comm 20 a] at h
    show 20 + i < _
    omega
  | _ + 3 =>
    simp only [Bool.and_eq_true] at hd
    have h := q_nn_le (n := n) (Nat.le_of_ble_eq_true hd.1) (Nat.le_of_ble_eq_true hd.2)
    have e := q_nn_add (n := n) (a := a) (b := b) (c := 1)
    show i + 1 < _
    omega
theorem q_fv_ok {n k i f : Nat} {σ : J} {w : Nat × List (Nat × Nat × Nat)} {d : Nat × Nat × Nat} (h : q_ko k = some w) (hd : w.2[f]? = some d) (hi : (k, i) ∈ idj n) : q_ok n (q_fv σ k i f d) = true := by
  unfold q_fv
  by_cases h2 : d.1 < 2
  · rw [Nat.blt_eq.mpr h2]
    rfl
  · have e : Nat.blt d.1 2 = false := by
      cases hb : Nat.blt d.1 2 with
      | false => rfl
      | true => exact absurd (Nat.blt_eq.mp hb) h2
    rw [e]
    exact q_ok_b (Nat.blt_eq.mpr (q_clo (idj_lt hi) ((q_kB_at h).2.2.1 d (List.mem_of_getElem? hd)) h2))
theorem q_cl_at {ci : Nat} (h : ci < vcl.length) : vcl[ci]? = some ((q_cl ci).1, (q_cl ci).2.1, (q_cl ci).2.2) := by
  unfold q_cl
  rw [List.getD_eq_getElem?_getD, List.getElem?_eq_getElem h]
  rfl
