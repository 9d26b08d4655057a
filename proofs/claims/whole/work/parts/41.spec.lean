/-! The pure side: what the board does, in lists. Ours. -/
/-- kind and value; a form: code, a, b -/
abbrev FV : Type := Int32 × Int64
abbrev Fm : Type := Int32 × Int64 × Int64
/-- a tuple: number, end of the lease, put by, put in, taken by, taken in, fields -/
abbrev Tp : Type := Int32 × Int32 × Int32 × Int32 × Int32 × Int32 × List FV
/-- an order: pattern, reports, over -/
abbrev Od : Type := List Fm × List Int32 × Bool
/-- what is bound -/
abbrev Bd : Type := Nat → Option FV
/-- a find's answer: the numbers, what was bound -/
abbrev Fq : Type := List Int32 × Bd
def t_num (t : Tp) : Int32 := t.1
def t_end (t : Tp) : Int32 := t.2.1
def t_pS (t : Tp) : Int32 := t.2.2.1
def t_pD (t : Tp) : Int32 := t.2.2.2.1
def t_tS (t : Tp) : Int32 := t.2.2.2.2.1
def t_tD (t : Tp) : Int32 := t.2.2.2.2.2.1
def t_fs (t : Tp) : List FV := t.2.2.2.2.2.2
def t_setE (t : Tp) (e : Int32) : Tp := (t.1, e, t.2.2)
def t_setP (t : Tp) (s d : Int32) : Tp := (t.1, t.2.1, s, d, t.2.2.2.2)
def t_setT (t : Tp) (s d : Int32) : Tp := (t.1, t.2.1, t.2.2.1, t.2.2.2.1, s, d, t.2.2.2.2.2.2)
def a_isP (s d : Int32) (t : Tp) : Bool := decide (t_pS t = s) && decide (t_pD t = d)
def a_isT (s d : Int32) (t : Tp) : Bool := decide (t_tS t = s) && decide (t_tD t = d)
def a_sees (s : Int32) (t : Tp) : Bool := decide (t_tD t = im) && (decide (t_pD t = im) || decide (t_pS t = s))
def a_over (now : Nat) (t : Tp) : Bool := decide (t_end t ≠ i 0) && decide (t_end t ≤ i now)
/-- does a form hold of a field, and what is bound then -/
def a_holds (g : Fm) (x : FV) (nums : List Int32) (bd : Bd) : Option Bd :=
  if g.1 = i 1 then (if x.1.toInt64 = g.2.1 then some bd else none)
  else if g.1 = i 2 then (if x.1.toInt64 = g.2.1 ∧ x.2 = g.2.2 then some bd else none)
  else if g.1 = i 3 then (if x.1.toInt64 = g.2.1 ∧ x.2 = g.2.2 then none else some bd)
  else if g.1 = i 4 then (if x.1 = i 0 ∧ x.2 < g.2.2 then some bd else none)
  else if g.1 = i 5 then (if x.1 = i 0 ∧ g.2.2 < x.2 then some bd else none)
  else if g.1 = i 6 then (if x.1 = i 0 ∧ ¬ x.2 < g.2.1 ∧ ¬ g.2.2 < x.2 then some bd else none)
  else if g.1 = i 7 then (match bd g.2.1.toInt32.toNatClampNeg with
    | none => some (fun v => if v = g.2.1.toInt32.toNatClampNeg then some x else bd v)
    | some y => if y = x then some bd else none)
  else if g.1 = i 8 then (match nums[g.2.1.toInt32.toNatClampNeg]? with
    | none => none
    | some m => if x.1 = i 2 ∧ x.2 = m.toInt64 then some bd else none)
  else if g.1 = i 9 then (if x.1.toInt64 = g.2.1 ∧ ¬ x.2 < 0 ∧ ¬ 63 < x.2 ∧ (g.2.2 >>> (x.2.toInt32.toInt64 &&& 63)) &&& 1 = 1 then some bd else none)
  else some bd
def a_fits : List Fm → List FV → List Int32 → Bd → Option Bd
  | [], [], _, bd => some bd
  | g :: gs, x :: xs, nums, bd => (a_holds g x nums bd).bind fun bd1 => a_fits gs xs nums bd1
  | _, _, _, _ => none
def bd0 : Bd := fun _ => none
/-- the first answer, in order -/
def a_dfs (s : Int32) (ts : List Tp) (pt : Nat → List Fm) : Nat → Nat → List Int32 → Bd → Option Fq
  | 0, _, nums, bd => some (nums, bd)
  | k + 1, p, nums, bd => ts.findSome? fun t => if a_sees s t = true ∧ t_num t ∉ nums then (a_fits (pt p) (t_fs t) nums bd).bind fun bd1 => a_dfs s ts pt k (p + 1) (nums ++ [t_num t]) bd1 else none
def a_search (s : Nat) (ts : List Tp) (pt : Nat → List Fm) (joined : Nat) : Option Fq := a_dfs (i s) ts pt joined 0 [] bd0
/-- taking: away at once, or into the deal -/
def a_take (s d : Nat) (ts : List Tp) (m : Int32) : List Tp := if d = 0 then ts.filter (fun t => decide (t_num t ≠ m)) else ts.map fun t => if t_num t = m then t_setT t (i s) (i d) else t
def a_grant (s d : Nat) (takes : Bool) (ts : List Tp) (r : Fq) : List Tp := if takes = true then r.1.foldl (a_take s d) ts else ts
def a_add1 (m : Int32) (o : Od) : Od := if o.2.2 = true then o else if o.2.1.length = 5 then (o.1, o.2.1, true) else (o.1, o.2.1 ++ [m], false)
def a_report (t : Tp) (os : List Od) : List Od := os.map fun o => if (a_fits o.1 (t_fs t) [] bd0).isSome = true then a_add1 (t_num t) o else o
/-- one goes through the line, those that are served leave it -/
def a_serve (pt : Nat → Nat → List Fm) (dl jo : Nat → Nat) (tk : Nat → Bool) : List Nat → List Nat → List Tp → (Nat → Int32) → (Nat → Fq) → List Nat × List Tp × (Nat → Int32) × (Nat → Fq)
  | [], kept, ts, la, fn => (kept, ts, la, fn)
  | s :: todo, kept, ts, la, fn => match a_search s ts (pt s) (jo s) with
    | none => a_serve pt dl jo tk todo (kept ++ [s]) ts la fn
    | some r => a_serve pt dl jo tk todo kept (a_grant s (dl s) (tk s) ts r) (va_up la s (i 2)) (va_up fn s r)
def a_undo1 (s d : Int32) (t : Tp) : Option Tp := if a_isP s d t = true then none else if a_isT s d t = true then some (t_setT t im im) else some t
def a_undo (s d : Nat) (ts : List Tp) : List Tp := ts.filterMap (a_undo1 (i s) (i d))
def a_freed (s d : Nat) (ts : List Tp) : Bool := ts.any fun t => !(a_isP (i s) (i d) t) && a_isT (i s) (i d) t
def a_inDeal (s d : Nat) (ts : List Tp) : Nat := ts.countP fun t => a_isP (i s) (i d) t || a_isT (i s) (i d) t
def a_hand1 (s d : Nat) (t : Tp) : Tp :=
  let t1 := if a_isP (i s) (i d) t = true then t_setP t (i s) (i (d - 1)) else t
  if a_isT (i s) (i d) t1 = true then t_setT t1 (i s) (i (d - 1)) else t1
/-- a deal that is done at last: taken away, put outside, reported -/
def a_settle (s : Nat) : List Tp → List Od → List Tp × List Od × Bool
  | [], os => ([], os, false)
  | t :: ts, os => if a_isT (i s) (i 1) t = true then a_settle s ts os
    else if a_isP (i s) (i 1) t = true then
      let r := a_settle s ts (a_report (t_setP t im im) os)
      (t_setP t im im :: r.1, r.2.1, true)
    else
      let r := a_settle s ts os
      (t :: r.1, r.2.1, r.2.2)
/-- deals abandoned, from the one that stands down to d -/
def a_down (s d : Nat) : Nat → List Tp → Bool → List Tp × Bool
  | 0, ts, fr => (ts, fr)
  | c + 1, ts, fr => if c + 1 < d then (ts, fr) else a_down s d c (a_undo s (c + 1) ts) (fr || a_freed s (c + 1) ts)
/-- what the clock does to the first tuple whose lease is over -/
def a_end (t : Tp) (ts : List Tp) (line : List Nat) (dl : Nat → Nat) (la : Nat → Int32) : List Tp × List Nat × (Nat → Nat) × (Nat → Int32) × Bool :=
  if t_tD t = im then (ts.filter (fun u => decide (t_num u ≠ t_num t)), line, dl, la, false)
  else
    let s := (t_tS t).toNatClampNeg
    let d := (t_tD t).toNatClampNeg
    let r := a_down s d (dl s) ts false
    (r.1.filter (fun u => decide (t_num u ≠ t_num t)), line.erase s, va_up dl s (d - 1), if s ∈ line then va_up la s (i 3) else la, r.2)
def a_tick (now : Nat) : Nat → List Tp → List Nat → (Nat → Nat) → (Nat → Int32) → Nat → Bool → List Tp × List Nat × (Nat → Nat) × (Nat → Int32) × Nat × Bool
  | 0, ts, line, dl, la, c, fr => (ts, line, dl, la, c, fr)
  | k + 1, ts, line, dl, la, c, fr => match ts.find? (a_over now) with
    | none => (ts, line, dl, la, c, fr)
    | some t =>
      let r := a_end t ts line dl la
      a_tick now k r.1 r.2.1 r.2.2.1 r.2.2.2.1 (c + 1) (fr || r.2.2.2.2)
/-- forms and fields as they must be -/
def okF (x : FV) : Prop := x.1 = i 0 ∨ x.1 = i 1 ∨ x.1 = i 2
def okG (g : Fm) : Prop := (∃ k, k ≤ 9 ∧ g.1 = i k) ∧ (g.1 = i 7 → ∃ v, v < 4 ∧ g.2.1 = Int64.ofNat v) ∧ (g.1 = i 8 → ∃ v, v < 2 ∧ g.2.1 = Int64.ofNat v)
def okGs (gs : List Fm) : Prop := gs.length ≤ 4 ∧ ∀ g ∈ gs, okG g
def okFs (xs : List FV) : Prop := xs.length ≤ 4 ∧ ∀ x ∈ xs, okF x
def okT (n now lat : Nat) (dl : Nat → Nat) (t : Tp) : Prop := (∃ k, 1 ≤ k ∧ k ≤ lat ∧ t_num t = i k) ∧ (∃ e, e ≤ now + 1000 ∧ t_end t = i e) ∧ ((t_pS t = im ∧ t_pD t = im) ∨ ∃ s d, s < n ∧ 1 ≤ d ∧ d ≤ 4 ∧ t_pS t = i s ∧ t_pD t = i d) ∧ ((t_tS t = im ∧ t_tD t = im) ∨ ∃ s d, s < n ∧ 1 ≤ d ∧ d ≤ dl s ∧ t_tS t = i s ∧ t_tD t = i d) ∧ okFs (t_fs t)
def okTs (n now lat : Nat) (dl : Nat → Nat) (ts : List Tp) : Prop := (ts.map t_num).Nodup ∧ ∀ t ∈ ts, okT n now lat dl t
/-- rows that hold a list -/
def FR (c : Int32) (k : Nat → Int32) (v : Nat → Int64) (xs : List FV) : Prop := c = i xs.length ∧ ∀ j x, xs[j]? = some x → k j = x.1 ∧ v j = x.2
def GR (c : Int32) (k : Nat → Int32) (a b : Nat → Int64) (gs : List Fm) : Prop := c = i gs.length ∧ ∀ j g, gs[j]? = some g → k j = g.1 ∧ a j = g.2.1 ∧ b j = g.2.2
def AR (k : Nat → Int32) (xs : List Int32) : Prop := ∀ j x, xs[j]? = some x → k j = x
