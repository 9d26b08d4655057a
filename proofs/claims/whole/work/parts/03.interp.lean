/-! Tables of kinds: what stands in which field. Ours, written by ops.py -/
def q_kot : List (Option (Nat × List (Nat × Nat × Nat))) := [some (0, [(2, 1, 0), (2, 2, 0), (2, 21, 0), (2, 20, 0), (0, 0, 0), (0, 0, 0), (2, 12, 0)]),
  none,
  some (1, [(2, 3, 0), (0, 0, 0), (0, 0, 0)]),
  none,
  some (2, [(1, 0, 0), (0, 0, 0), (0, 0, 0), (0, 0, 0), (0, 0, 0), (0, 0, 0), (0, 0, 0), (2, 5, 1)]),
  some (3, [(0, 0, 0), (2, 6, 1), (2, 7, 1)]),
  none,
  none,
  some (4, [(0, 0, 0), (2, 9, 1), (2, 10, 1), (2, 11, 1)]),
  none,
  none,
  none,
  some (5, [(2, 13, 1), (0, 0, 0), (2, 14, 1), (2, 15, 1)]),
  none,
  none,
  none,
  some (6, [(0, 0, 0), (2, 5, 2), (2, 17, 1), (2, 12, 3), (0, 0, 0), (0, 0, 0), (0, 0, 0), (1, 0, 0)]),
  none,
  some (7, [(2, 8, 1), (2, 19, 1), (0, 0, 0), (1, 0, 0)]),
  none,
  none,
  some (8, [(2, 22, 0), (0, 0, 0)]),
  none,
  none,
  some (9, [(0, 0, 0), (0, 0, 0), (0, 0, 0), (0, 0, 0), (2, 25, 0), (2, 26, 0), (2, 27, 0), (2, 28, 0), (2, 29, 0), (2, 30, 0), (2, 31, 0), (2, 32, 0), (2, 33, 0), (0, 0, 0), (2, 34, 0), (2, 35, 0), (2, 36, 0), (2, 37, 0), (2, 38, 0), (2, 39, 0), (2, 40, 0), (2, 41, 0), (0, 0, 0), (2, 42, 0), (2, 43, 0), (2, 44, 0), (2, 45, 0), (2, 46, 0), (2, 47, 0), (2, 48, 0), (0, 0, 0), (2, 49, 0), (2, 50, 0), (2, 51, 0), (2, 52, 0), (2, 53, 0), (2, 54, 0)]),
  none,
  none,
  none,
  none,
  none,
  none,
  none,
  none,
  none,
  none,
  none,
  none,
  none,
  none,
  none,
  none,
  none,
  none,
  none,
  none,
  none,
  none,
  none,
  none,
  none,
  none,
  none,
  none,
  none,
  none]
def q_kat : List (Option (Nat × Nat × Nat × Nat)) := [none, some (3, 16, 0, 1), none, some (4, 4, 20, 0), none, none, some (0, 0, 4, 0), some (1, 0, 4, 0), none, some (0, 0, 4, 0), some (1, 0, 4, 0), some (1, 0, 4, 0), none, some (0, 0, 3, 0), some (0, 0, 4, 0), some (1, 0, 4, 0), none, some (5, 8, 3, 0), none, some (0, 0, 5, 0), some (6, 18, 6, 0), none, some (0, 0, 4, 0), some (1, 0, 1, 0), none, some (0, 0, 20, 0), some (0, 0, 20, 0), some (0, 0, 20, 0), some (0, 0, 20, 0), some (0, 0, 20, 0), some (0, 0, 20, 0), some (0, 0, 20, 0), some (0, 0, 80, 0), some (1, 0, 80, 0), some (0, 0, 4, 0), some (0, 0, 4, 0), some (0, 0, 16, 0), some (1, 0, 16, 0), some (0, 0, 18, 0), some (0, 0, 72, 0), some (1, 0, 72, 0), some (1, 0, 72, 0), some (0, 0, 4, 0), some (0, 0, 4, 0), some (0, 0, 4, 0), some (0, 0, 4, 0), some (0, 0, 12, 0), some (0, 0, 16, 0), some (1, 0, 16, 0), some (0, 0, 6, 0), some (0, 0, 30, 0), some (2, 0, 6, 0), some (0, 0, 16, 0), some (1, 0, 16, 0), some (0, 0, 3, 0)]
def q_ctt : List (Nat × Nat) := [(1, 0), (1, 0), (1, 0), (1, 0), (20, 0), (20, 1), (20, 1), (20, 1), (6, 2), (6, 2), (6, 2), (6, 2), (1, 1), (1, 1), (1, 1), (1, 1), (0, 1), (0, 1), (6, 0), (6, 0), (1, 0), (1, 0), (1, 0), (1, 0), (1, 0), (1, 0), (1, 0), (1, 0), (1, 0), (1, 0), (1, 0), (1, 0), (1, 0), (1, 0), (1, 0), (1, 0), (1, 0), (1, 0), (1, 0), (1, 0), (1, 0), (1, 0), (1, 0), (1, 0), (1, 0), (1, 0), (1, 0), (1, 0), (1, 0), (1, 0), (1, 0), (1, 0), (1, 0), (1, 0), (1, 0)]
/-! An interpreter over plain numbers: values, the state, one step, a run. Ours. -/
abbrev PV : Type := Int32 ⊕ Int64 ⊕ Option (Nat × Nat)
/-- the locals: what is known of each -/
abbrev PL : Type := Nat → Option PV
/-- int fields by kind, field, index; int rows by kind, index; long rows; the places of rows of references -/
abbrev J : Type := (Nat → Nat → Nat → Int32) × (Nat → Nat → Nat → Int32) × (Nat → Nat → Nat → Int64) × (Nat → Nat → Nat → Nat)
abbrev Op : Type := Nat × Int × Nat × Nat × List Nat
abbrev Res : Type := (Option PV ⊕ Nat) × J
abbrev MRow : Type := MethodName × ByteArray × Nat × Option FieldType
def q_cat (v : PV) : Nat := match v with
  | .inl _ => 1
  | .inr (.inl _) => 2
  | .inr (.inr _) => 1
def q_tv (ad : Nat → Nat → Nat) (v : PV) : Value := match v with
  | .inl x => .int x
  | .inr (.inl y) => .long y
  | .inr (.inr none) => .null
  | .inr (.inr (some q)) => .ref (ad q.1 q.2)
def q_s1 (L : PL) (a : Nat) (v : PV) : PL := fun b => bif Nat.beq b a then some v else bif Nat.beq (b + 1) a then (match L b with
  | some w => bif Nat.beq (q_cat w) 2 then none else some w
  | none => none) else L b
def q_s2 (L : PL) (a : Nat) (v : PV) : PL := fun b => bif Nat.beq b a then some v else bif Nat.beq b (a + 1) then none else bif Nat.beq (b + 1) a then (match L b with
  | some w => bif Nat.beq (q_cat w) 2 then none else some w
  | none => none) else L b
def q_args : Nat → List PV → PL
  | _, [] => fun _ => none
  | i, v :: vs => fun b => bif Nat.beq b i then some v else q_args (bif Nat.beq (q_cat v) 2 then i + 2 else i + 1) vs b
def q_pI : List PV → Option (Int32 × List PV)
  | .inl x :: r => some (x, r)
  | _ => none
def q_pL : List PV → Option (Int64 × List PV)
  | .inr (.inl x) :: r => some (x, r)
  | _ => none
def q_pR : List PV → Option ((Nat × Nat) × List PV)
  | .inr (.inr (some q)) :: r => some (q, r)
  | _ => none
def q_pN : List PV → Option (Option (Nat × Nat) × List PV)
  | .inr (.inr q) :: r => some (q, r)
  | _ => none
def q_p1 : List PV → Option (PV × List PV)
  | .inl x :: r => some (.inl x, r)
  | .inr (.inr x) :: r => some (.inr (.inr x), r)
  | _ => none
def q_pop : Nat → List PV → Option (List PV × List PV)
  | 0, st => some ([], st)
  | _ + 1, [] => none
  | j + 1, v :: r => match q_pop j r with
    | none => none
    | some q => some (q.1 ++ [v], q.2)
def q_sI (σ : J) (k f i : Nat) (v : Int32) : J := (fun x y z => if x = k ∧ y = f ∧ z = i then v else σ.1 x y z, σ.2)
def q_sA (σ : J) (k i : Nat) (g : Nat → Int32) : J := (σ.1, fun x y => if x = k ∧ y = i then g else σ.2.1 x y, σ.2.2)
def q_sL (σ : J) (k i : Nat) (g : Nat → Int64) : J := (σ.1, σ.2.1, fun x y => if x = k ∧ y = i then g else σ.2.2.1 x y, σ.2.2.2)
def q_sP (σ : J) (k i : Nat) (g : Nat → Nat) : J := (σ.1, σ.2.1, σ.2.2.1, fun x y => if x = k ∧ y = i then g else σ.2.2.2 x y)
def q_ko (k : Nat) : Option (Nat × List (Nat × Nat × Nat)) := q_kot.getD k none
def q_ka (k : Nat) : Option (Nat × Nat × Nat × Nat) := q_kat.getD k none
def q_nn (n : Nat) (q : Nat × Nat) : Nat := match q.2 with
  | 0 => q.1
  | 1 => q.1 + n
  | _ => q.1 + 3 * n
def q_ct (n k : Nat) : Nat := q_nn n (q_ctt.getD k (0, 0))
def q_ix (c i : Nat) : Nat := match c with
  | 0 => 0
  | 1 => i
  | 2 => 20 + i
  | _ => i + 1
def q_fv (σ : J) (k i f : Nat) (d : Nat × Nat × Nat) : PV := bif Nat.blt d.1 2 then .inl (σ.1 k f i) else .inr (.inr (some (d.2.1, q_ix d.2.2 i)))
def q_in (i : Int32) (n : Nat) : Bool := decide (¬ (i < 0 ∨ n ≤ i.toNatClampNeg))
def q_ok (n : Nat) (v : PV) : Bool := match v with
  | .inr (.inr (some q)) => Nat.beq q.1 63 || Nat.blt q.2 (q_ct n q.1)
  | _ => true
def q_rm (st : List PV) : Bool := Nat.ble ((st.map q_cat).sum) 8
def q_sw (g : Nat → Option Res) (x : Int32) : Nat → List Nat → Nat → Option Res
  | _, [], t => g t
  | v, u :: r, t => if x = Int32.ofNat v then g u else q_sw g x (v + 1) r t
/-- rows that may be copied: from a, place sp, to b, place dp, many -/
def q_cpo (sp dp m : Int32) (n0 n1 : Nat) : Bool := decide (¬ sp < 0) && decide (¬ dp < 0) && decide (¬ m < 0) && Nat.ble (sp.toNatClampNeg + m.toNatClampNeg) n0 && Nat.ble (dp.toNatClampNeg + m.toNatClampNeg) n1
/-- behind a call -/
def q_af (n : Nat) (g : List PV → J → Option Res) (rest : List PV) (z : Res) : Option Res := match z with
  | (.inl none, σ) => g rest σ
  | (.inl (some v), σ) => bif q_ok n v then g (v :: rest) σ else none
  | (.inr e, σ) => some (.inr e, σ)
def q_stp (n : Nat) (g : Nat → PL → List PV → J → Option Res) (cal : Nat → List PV → J → Option Res) (pc : Nat) (o : Op) (L : PL) (st : List PV) (σ : J) : Option Res :=
  match o.1 with
  | 0 => g (pc + 1) L (.inl (Int32.ofInt o.2.1) :: st) σ
  | 1 => g (pc + 2) L (.inl (Int32.ofInt o.2.1) :: st) σ
  | 2 => g (pc + 3) L (.inl (Int32.ofInt o.2.1) :: st) σ
  | 3 => g (pc + 1) L (.inr (.inl (Int64.ofInt o.2.1)) :: st) σ
  | 4 => g (pc + 3) L (.inr (.inl (Int64.ofInt o.2.1)) :: st) σ
  | 6 => (L o.2.2.1).bind fun v => (q_pI (v :: st)).bind fun _ => g (pc + 1) L (v :: st) σ
  | 7 => (L o.2.2.1).bind fun v => (q_pI (v :: st)).bind fun _ => g (pc + 2) L (v :: st) σ
  | 8 => (L o.2.2.1).bind fun v => (q_pL (v :: st)).bind fun _ => g (pc + 1) L (v :: st) σ
  | 9 => (L o.2.2.1).bind fun v => (q_pL (v :: st)).bind fun _ => g (pc + 2) L (v :: st) σ
  | 10 => (L o.2.2.1).bind fun v => (q_pN (v :: st)).bind fun _ => g (pc + 1) L (v :: st) σ
  | 11 => (L o.2.2.1).bind fun v => (q_pN (v :: st)).bind fun _ => g (pc + 2) L (v :: st) σ
  | 12 => (q_pI st).bind fun q => g (pc + 1) (q_s1 L o.2.2.1 (.inl q.1)) q.2 σ
  | 13 => (q_pI st).bind fun q => g (pc + 2) (q_s1 L o.2.2.1 (.inl q.1)) q.2 σ
  | 14 => (q_pL st).bind fun q => g (pc + 1) (q_s2 L o.2.2.1 (.inr (.inl q.1))) q.2 σ
  | 15 => (q_pL st).bind fun q => g (pc + 2) (q_s2 L o.2.2.1 (.inr (.inl q.1))) q.2 σ
  | 16 => (q_pN st).bind fun q => g (pc + 1) (q_s1 L o.2.2.1 (.inr (.inr q.1))) q.2 σ
  | 17 => (q_pN st).bind fun q => g (pc + 2) (q_s1 L o.2.2.1 (.inr (.inr q.1))) q.2 σ
  | 18 => (L o.2.2.1).bind fun v => (q_pI [v]).bind fun q => g (pc + 3) (q_s1 L o.2.2.1 (.inl (q.1 + Int32.ofInt o.2.1))) st σ
  | 19 => (q_pI st).bind fun y => (q_pI y.2).bind fun x => g (pc + 1) L (.inl (x.1 + y.1) :: x.2) σ
  | 20 => (q_pI st).bind fun y => (q_pI y.2).bind fun x => g (pc + 1) L (.inl (x.1 - y.1) :: x.2) σ
  | 21 => (q_pI st).bind fun y => (q_pI y.2).bind fun x => g (pc + 1) L (.inl (x.1 * y.1) :: x.2) σ
  | 22 => (q_pI st).bind fun y => (q_pI y.2).bind fun x => if y.1 = 0 then none else g (pc + 1) L (.inl (x.1 - x.1 / y.1 * y.1) :: x.2) σ
  | 23 => (q_pI st).bind fun y => (q_pI y.2).bind fun x => g (pc + 1) L (.inl (x.1 &&& y.1) :: x.2) σ
  | 24 => (q_pI st).bind fun y => (q_pI y.2).bind fun x => g (pc + 1) L (.inl (x.1 ||| y.1) :: x.2) σ
  | 25 => (q_pI st).bind fun y => (q_pI y.2).bind fun x => g (pc + 1) L (.inl (x.1 <<< (y.1 &&& 31)) :: x.2) σ
  | 26 => (q_pI st).bind fun y => (q_pI y.2).bind fun x => g (pc + 1) L (.inl (x.1 >>> (y.1 &&& 31)) :: x.2) σ
  | 27 => (q_pL st).bind fun y => (q_pL y.2).bind fun x => g (pc + 1) L (.inr (.inl (x.1 + y.1)) :: x.2) σ
  | 28 => (q_pL st).bind fun y => (q_pL y.2).bind fun x => g (pc + 1) L (.inr (.inl (x.1 &&& y.1)) :: x.2) σ
  | 29 => (q_pL st).bind fun y => (q_pL y.2).bind fun x => g (pc + 1) L (.inr (.inl (x.1 ||| y.1)) :: x.2) σ
  | 30 => (q_pI st).bind fun y => (q_pL y.2).bind fun x => g (pc + 1) L (.inr (.inl (x.1 <<< (y.1.toInt64 &&& 63))) :: x.2) σ
  | 31 => (q_pI st).bind fun y => (q_pL y.2).bind fun x => g (pc + 1) L (.inr (.inl (x.1 >>> (y.1.toInt64 &&& 63))) :: x.2) σ
  | 32 => (q_pI st).bind fun y => (q_pL y.2).bind fun x => g (pc + 1) L (.inr (.inl (x.1.toUInt64 >>> (y.1.toInt64.toUInt64 &&& Int64.toUInt64 63)).toInt64) :: x.2) σ
  | 33 => (q_pI st).bind fun x => g (pc + 1) L (.inr (.inl x.1.toInt64) :: x.2) σ
  | 34 => (q_pL st).bind fun x => g (pc + 1) L (.inl x.1.toInt32 :: x.2) σ
  | 35 => (q_pL st).bind fun y => (q_pL y.2).bind fun x => g (pc + 1) L (.inl (lg_cmp x.1 y.1) :: x.2) σ
  | 36 => (q_p1 st).bind fun x => g (pc + 1) L (x.1 :: x.1 :: x.2) σ
  | 37 => (q_p1 st).bind fun x => g (pc + 1) L x.2 σ
  | 38 => (q_p1 st).bind fun x => (q_p1 x.2).bind fun y => g (pc + 1) L (x.1 :: y.1 :: x.1 :: y.1 :: y.2) σ
  | 39 => g (pc + 1) L (.inr (.inr none) :: st) σ
  | 40 => (q_pN st).bind fun x => match x.1 with
    | none => g o.2.2.1 L x.2 σ
    | some _ => g (pc + 3) L x.2 σ
  | 41 => (q_pN st).bind fun x => match x.1 with
    | none => g (pc + 3) L x.2 σ
    | some _ => g o.2.2.1 L x.2 σ
  | 42 => g o.2.2.1 L st σ
  | 43 => (q_pI st).bind fun x => if x.1 = 0 then g o.2.2.1 L x.2 σ else g (pc + 3) L x.2 σ
  | 44 => (q_pI st).bind fun x => if x.1 = 0 then g (pc + 3) L x.2 σ else g o.2.2.1 L x.2 σ
  | 45 => (q_pI st).bind fun x => if x.1 < 0 then g o.2.2.1 L x.2 σ else g (pc + 3) L x.2 σ
  | 46 => (q_pI st).bind fun x => if 0 ≤ x.1 then g o.2.2.1 L x.2 σ else g (pc + 3) L x.2 σ
  | 47 => (q_pI st).bind fun x => if 0 < x.1 then g o.2.2.1 L x.2 σ else g (pc + 3) L x.2 σ
  | 48 => (q_pI st).bind fun x => if x.1 ≤ 0 then g o.2.2.1 L x.2 σ else g (pc + 3) L x.2 σ
  | 49 => (q_pI st).bind fun y => (q_pI y.2).bind fun x => if x.1 = y.1 then g o.2.2.1 L x.2 σ else g (pc + 3) L x.2 σ
  | 50 => (q_pI st).bind fun y => (q_pI y.2).bind fun x => if x.1 = y.1 then g (pc + 3) L x.2 σ else g o.2.2.1 L x.2 σ
  | 51 => (q_pI st).bind fun y => (q_pI y.2).bind fun x => if x.1 < y.1 then g o.2.2.1 L x.2 σ else g (pc + 3) L x.2 σ
  | 52 => (q_pI st).bind fun y => (q_pI y.2).bind fun x => if y.1 ≤ x.1 then g o.2.2.1 L x.2 σ else g (pc + 3) L x.2 σ
  | 53 => (q_pI st).bind fun y => (q_pI y.2).bind fun x => if y.1 < x.1 then g o.2.2.1 L x.2 σ else g (pc + 3) L x.2 σ
  | 54 => (q_pI st).bind fun y => (q_pI y.2).bind fun x => if x.1 ≤ y.1 then g o.2.2.1 L x.2 σ else g (pc + 3) L x.2 σ
  | 55 => (q_pI st).bind fun x => q_sw (fun t => g t L x.2 σ) x.1 o.2.2.1 o.2.2.2.2.tail o.2.2.2.1
  | 56 => (q_pR st).bind fun q => (q_ko q.1.1).bind fun w => bif Nat.beq w.1 (o.2.2.2.2.getD 0 0) then (w.2[o.2.2.2.1]?).bind fun d => g (pc + 3) L (q_fv σ q.1.1 q.1.2 o.2.2.2.1 d :: q.2) σ else none
  | 57 => (q_pI st).bind fun v => (q_pR v.2).bind fun q => (q_ko q.1.1).bind fun w => bif Nat.beq w.1 (o.2.2.2.2.getD 0 0) then (w.2[o.2.2.2.1]?).bind fun d => bif Nat.beq d.1 0 then g (pc + 3) L q.2 (q_sI σ q.1.1 o.2.2.2.1 q.1.2 v.1) else bif Nat.beq d.1 1 then if v.1 &&& 1 = v.1 then g (pc + 3) L q.2 (q_sI σ q.1.1 o.2.2.2.1 q.1.2 v.1) else none else none else none
  | 58 => (q_pI st).bind fun j => (q_pR j.2).bind fun q => (q_ka q.1.1).bind fun w => bif Nat.beq w.1 0 then bif q_in j.1 (q_nn n w.2.2) then g (pc + 1) L (.inl (σ.2.1 q.1.1 q.1.2 j.1.toNatClampNeg) :: q.2) σ else none else none
  | 59 => (q_pI st).bind fun j => (q_pR j.2).bind fun q => (q_ka q.1.1).bind fun w => bif Nat.beq w.1 1 then bif q_in j.1 (q_nn n w.2.2) then g (pc + 1) L (.inr (.inl (σ.2.2.1 q.1.1 q.1.2 j.1.toNatClampNeg)) :: q.2) σ else none else none
  | 60 => (q_pI st).bind fun j => (q_pR j.2).bind fun q => (q_ka q.1.1).bind fun w => bif Nat.blt 2 w.1 then bif q_in j.1 (q_nn n w.2.2) then bif Nat.blt (σ.2.2.2 q.1.1 q.1.2 j.1.toNatClampNeg) (q_ct n w.2.1) then g (pc + 1) L (.inr (.inr (some (w.2.1, σ.2.2.2 q.1.1 q.1.2 j.1.toNatClampNeg))) :: q.2) σ else none else none else none
  | 61 => (q_pI st).bind fun j => (q_pR j.2).bind fun q => (q_ka q.1.1).bind fun w => bif Nat.beq w.1 2 then bif q_in j.1 (q_nn n w.2.2) then g (pc + 1) L (.inl (σ.2.1 q.1.1 q.1.2 j.1.toNatClampNeg) :: q.2) σ else none else none
  | 62 => (q_pI st).bind fun v => (q_pI v.2).bind fun j => (q_pR j.2).bind fun q => (q_ka q.1.1).bind fun w => bif Nat.beq w.1 0 then bif q_in j.1 (q_nn n w.2.2) then g (pc + 1) L q.2 (q_sA σ q.1.1 q.1.2 (upd (σ.2.1 q.1.1 q.1.2) j.1.toNatClampNeg v.1)) else none else none
  | 63 => (q_pL st).bind fun v => (q_pI v.2).bind fun j => (q_pR j.2).bind fun q => (q_ka q.1.1).bind fun w => bif Nat.beq w.1 1 then bif q_in j.1 (q_nn n w.2.2) then g (pc + 1) L q.2 (q_sL σ q.1.1 q.1.2 (vp_updL (σ.2.2.1 q.1.1 q.1.2) j.1.toNatClampNeg v.1)) else none else none
  | 64 => (q_pR st).bind fun v => (q_pI v.2).bind fun j => (q_pR j.2).bind fun q => (q_ka q.1.1).bind fun w => bif Nat.blt 2 w.1 && Nat.beq w.2.1 v.1.1 then bif q_in j.1 (q_nn n w.2.2) then g (pc + 1) L q.2 (q_sP σ q.1.1 q.1.2 (va_up (σ.2.2.2 q.1.1 q.1.2) j.1.toNatClampNeg v.1.2)) else none else none
  | 65 => (q_pI st).bind fun v => (q_pI v.2).bind fun j => (q_pR j.2).bind fun q => (q_ka q.1.1).bind fun w => bif Nat.beq w.1 2 then bif q_in j.1 (q_nn n w.2.2) then if v.1 &&& 1 = v.1 then g (pc + 1) L q.2 (q_sA σ q.1.1 q.1.2 (upd (σ.2.1 q.1.1 q.1.2) j.1.toNatClampNeg v.1)) else none else none else none
  | 66 => (q_pR st).bind fun q => (q_ka q.1.1).bind fun w => g (pc + 1) L (.inl (Int32.ofNat (q_nn n w.2.2)) :: q.2) σ
  | 67 => (q_pop (o.2.2.2.2.getD 0 0) st).bind fun a => (q_pR a.2).bind fun q => (q_ko q.1.1).bind fun w => bif Nat.beq w.1 (o.2.2.2.2.getD 1 0) && (q_rm q.2 && Nat.beq ((a.1.map q_cat).sum) (o.2.2.2.2.getD 2 0)) then (cal o.2.2.2.1 (.inr (.inr (some q.1)) :: a.1) σ).bind (q_af n (fun st' σ' => g (pc + 3) L st' σ') q.2) else none
  | 68 => (q_pop (o.2.2.2.2.getD 0 0) st).bind fun a => bif q_rm a.2 && Nat.beq ((a.1.map q_cat).sum) (o.2.2.2.2.getD 2 0) then (cal o.2.2.2.1 a.1 σ).bind (q_af n (fun st' σ' => g (pc + 3) L st' σ') a.2) else none
  | 69 => (q_pI st).bind fun m => (q_pI m.2).bind fun dp => (q_pR dp.2).bind fun b => (q_pI b.2).bind fun sp => (q_pR sp.2).bind fun a => (q_ka a.1.1).bind fun wa => (q_ka b.1.1).bind fun wb => bif q_cpo sp.1 dp.1 m.1 (q_nn n wa.2.2) (q_nn n wb.2.2) && q_rm a.2 then
      bif Nat.beq wa.1 0 && Nat.beq wb.1 0 then g (pc + 3) L a.2 (q_sA σ b.1.1 b.1.2 (va_cpy (σ.2.1 a.1.1 a.1.2) (σ.2.1 b.1.1 b.1.2) sp.1.toNatClampNeg dp.1.toNatClampNeg m.1.toNatClampNeg))
      else bif Nat.beq wa.1 1 && Nat.beq wb.1 1 then g (pc + 3) L a.2 (q_sL σ b.1.1 b.1.2 (va_cpy (σ.2.2.1 a.1.1 a.1.2) (σ.2.2.1 b.1.1 b.1.2) sp.1.toNatClampNeg dp.1.toNatClampNeg m.1.toNatClampNeg)) else none else none
  | 70 => (q_pL st).bind fun y => (q_pL y.2).bind fun x => bif q_rm x.2 then g (pc + 3) L (.inr (.inl (if y.1 < x.1 then x.1 else y.1)) :: x.2) σ else none
  | 71 => (q_pL st).bind fun y => (q_pL y.2).bind fun x => bif q_rm x.2 then g (pc + 3) L (.inr (.inl (if y.1 < x.1 then y.1 else x.1)) :: x.2) σ else none
  | 72 => (q_pI st).bind fun x => match x.2 with
    | [] => some (.inl (some (.inl x.1)), σ)
    | _ :: _ => none
  | 73 => (q_pI st).bind fun x => match x.2 with
    | [] => if x.1 &&& 1 = x.1 then some (.inl (some (.inl x.1)), σ) else none
    | _ :: _ => none
  | 74 => (q_pL st).bind fun x => match x.2 with
    | [] => some (.inl (some (.inr (.inl x.1))), σ)
    | _ :: _ => none
  | 75 => (q_pN st).bind fun x => match x.2 with
    | [] => some (.inl (some (.inr (.inr x.1))), σ)
    | _ :: _ => none
  | 76 => match st with
    | [] => some (.inl none, σ)
    | _ :: _ => none
  | 77 => match st with
    | [] => some (.inr o.2.2.1, σ)
    | _ :: _ => none
  | _ => none
def q_run (pr : Nat → Nat → Option Op) (n : Nat) : Nat → Nat → Nat → Nat → PL → List PV → J → Option Res
  | _, 0, _, _, _, _, _ => none
  | d, f + 1, k, pc, L, st, σ => match pr k pc with
    | none => none
    | some o => q_stp n (fun pc' L' st' σ' => q_run pr n d f k pc' L' st' σ') (fun k' vs σ' => match d with
      | 0 => none
      | d' + 1 => q_run pr n d' f k' 0 (q_args 0 vs) [] σ') pc o L st σ
/-- the exceptions: their classes, the places in JobBoard's pool of class and of constructor -/
def q_xn (k : Nat) : String := match k with
  | 1 => "java/lang/IndexOutOfBoundsException"
  | 2 => "java/lang/IllegalStateException"
  | 3 => "java/lang/IllegalArgumentException"
  | _ => "java/lang/UnsupportedOperationException"
def q_xc (k : Nat) : Nat := match k with
  | 1 => 191
  | 2 => 253
  | 3 => 59
  | _ => 72
def q_xi (k : Nat) : Nat := match k with
  | 1 => 193
  | 2 => 255
  | 3 => 61
  | _ => 74
