/-! What each call answers and leaves behind. Ours. -/
def a_sess (n : Nat) (x : Int32) : Bool := decide (0 ≤ x) && decide (x < i n)
/-- the session, or why not -/
def a_first (n : Nat) (line : List Nat) (x : Int32) : Nat ⊕ Nat := if a_sess n x = true then (if x.toNatClampNeg ∈ line then .inr 2 else .inl x.toNatClampNeg) else .inr 1
def o_field (n : Nat) (x k : Int32) (v : Int64) : Sq → (Int32 ⊕ Nat) × Sq
  | (now, lat, ts, line, dl, dr, pt, la, jo, tk, fn, os) => match a_first n line x with
    | .inr e => (.inr e, (now, lat, ts, line, dl, dr, pt, la, jo, tk, fn, os))
    | .inl s => if 0 ≤ k ∧ k ≤ 2 then (if (dr s).length < 4 then (.inl (i ((dr s).length + 1)), (now, lat, ts, line, dl, va_up dr s (dr s ++ [(k, v)]), pt, la, jo, tk, fn, os)) else (.inr 4, (now, lat, ts, line, dl, dr, pt, la, jo, tk, fn, os))) else (.inr 3, (now, lat, ts, line, dl, dr, pt, la, jo, tk, fn, os))
def a_isForm (c : Int32) (a : Int64) : Bool :=
  if c = i 1 ∨ c = i 2 ∨ c = i 3 ∨ c = i 9 then !decide (a < 0) && !decide (2 < a)
  else if c = i 7 then !decide (a < 0) && decide (a < 4)
  else if c = i 8 then !decide (a < 0) && decide (a < 2)
  else decide (0 ≤ c) && decide (c ≤ 9)
def o_form (n : Nat) (x p c : Int32) (a b : Int64) : Sq → (Int32 ⊕ Nat) × Sq
  | (now, lat, ts, line, dl, dr, pt, la, jo, tk, fn, os) => match a_first n line x with
    | .inr e => (.inr e, (now, lat, ts, line, dl, dr, pt, la, jo, tk, fn, os))
    | .inl s => if 0 ≤ p ∧ p < 3 ∧ a_isForm c a = true then (if (pt s p.toNatClampNeg).length < 4 then (.inl (i ((pt s p.toNatClampNeg).length + 1)), (now, lat, ts, line, dl, dr, va_up pt s (va_up (pt s) p.toNatClampNeg (pt s p.toNatClampNeg ++ [(c, a, b)])), la, jo, tk, fn, os)) else (.inr 4, (now, lat, ts, line, dl, dr, pt, la, jo, tk, fn, os))) else (.inr 3, (now, lat, ts, line, dl, dr, pt, la, jo, tk, fn, os))
def o_forget (n : Nat) (x w : Int32) : Sq → (Int32 ⊕ Nat) × Sq
  | (now, lat, ts, line, dl, dr, pt, la, jo, tk, fn, os) => match a_first n line x with
    | .inr e => (.inr e, (now, lat, ts, line, dl, dr, pt, la, jo, tk, fn, os))
    | .inl s => if w = im then (.inl (i (dr s).length), (now, lat, ts, line, dl, va_up dr s [], pt, la, jo, tk, fn, os))
      else if 0 ≤ w ∧ w < 3 then (.inl (i (pt s w.toNatClampNeg).length), (now, lat, ts, line, dl, dr, va_up pt s (va_up (pt s) w.toNatClampNeg []), la, jo, tk, fn, os))
      else (.inr 3, (now, lat, ts, line, dl, dr, pt, la, jo, tk, fn, os))
def a_span (x : Int32) : Bool := decide (0 ≤ x) && decide (x ≤ 1000)
def a_lease (now : Nat) (x : Int32) : Int32 := if x = 0 then i 0 else i (now + x.toNatClampNeg)
def a_new (lat : Nat) (e : Int32) (xs : List FV) : Tp := (i (lat + 1), e, im, im, im, im, xs)
/-- the draft is put: into the deal, or outside, reported, and the line served -/
def a_put (s : Nat) (e : Int32) : Sq → Sq
  | (now, lat, ts, line, dl, dr, pt, la, jo, tk, fn, os) =>
    if dl s = 0 then a_served (now, lat + 1, ts ++ [a_new lat e (dr s)], line, dl, dr, pt, la, jo, tk, fn, a_report (a_new lat e (dr s)) os)
    else (now, lat + 1, ts ++ [t_setP (a_new lat e (dr s)) (i s) (i (dl s))], line, dl, dr, pt, la, jo, tk, fn, os)
def o_put (n : Nat) (x y : Int32) : Sq → (Int32 ⊕ Nat) × Sq
  | (now, lat, ts, line, dl, dr, pt, la, jo, tk, fn, os) => match a_first n line x with
    | .inr e => (.inr e, (now, lat, ts, line, dl, dr, pt, la, jo, tk, fn, os))
    | .inl s => if dr s ≠ [] ∧ a_span y = true then (if ts.length < 20 then (.inl (i (lat + 1)), a_put s (a_lease now y) (now, lat, ts, line, dl, dr, pt, la, jo, tk, fn, os)) else (.inr 4, (now, lat, ts, line, dl, dr, pt, la, jo, tk, fn, os))) else (.inr 3, (now, lat, ts, line, dl, dr, pt, la, jo, tk, fn, os))
def a_hasP (pt : Nat → List Fm) (x : Int32) : Bool := decide (1 ≤ x) && decide (x ≤ 3) && (List.range x.toNatClampNeg).all fun p => !(pt p).isEmpty
def a_fn0 : Fq := ([], bd0)
def o_find (n : Nat) (x j h : Int32) : Sq → (Int32 ⊕ Nat) × Sq
  | (now, lat, ts, line, dl, dr, pt, la, jo, tk, fn, os) => match a_first n line x with
    | .inr e => (.inr e, (now, lat, ts, line, dl, dr, pt, la, jo, tk, fn, os))
    | .inl s => if 0 ≤ h ∧ h ≤ 3 ∧ a_hasP (pt s) j = true then (match a_search s ts (pt s) j.toNatClampNeg with
        | some r => (.inl (r.1.getD 0 im), (now, lat, a_grant s (dl s) (!decide (h &&& 1 = 0)) ts r, line, dl, dr, pt, va_up la s (i 0), jo, tk, va_up fn s r, os))
        | none => if h &&& 2 = 0 then (.inl im, (now, lat, ts, line, dl, dr, pt, va_up la s (i 0), jo, tk, va_up fn s a_fn0, os))
          else (.inl (i 0), (now, lat, ts, line ++ [s], dl, dr, pt, va_up la s (i 0), va_up jo s j.toNatClampNeg, va_up tk s (!decide (h &&& 1 = 0)), va_up fn s a_fn0, os)))
      else (.inr 3, (now, lat, ts, line, dl, dr, pt, la, jo, tk, fn, os))
def o_stop (n : Nat) (x : Int32) : Sq → (Int32 ⊕ Nat) × Sq
  | (now, lat, ts, line, dl, dr, pt, la, jo, tk, fn, os) => if a_sess n x = true then (if x.toNatClampNeg ∈ line then (.inl (i 1), (now, lat, ts, line.erase x.toNatClampNeg, dl, dr, pt, va_up la x.toNatClampNeg (i 0), jo, tk, fn, os)) else (.inl (i 0), (now, lat, ts, line, dl, dr, pt, la, jo, tk, fn, os))) else (.inr 1, (now, lat, ts, line, dl, dr, pt, la, jo, tk, fn, os))
def o_swap (n : Nat) (x : Int32) : Sq → (Int32 ⊕ Nat) × Sq
  | (now, lat, ts, line, dl, dr, pt, la, jo, tk, fn, os) => match a_first n line x with
    | .inr e => (.inr e, (now, lat, ts, line, dl, dr, pt, la, jo, tk, fn, os))
    | .inl s => if dr s ≠ [] ∧ pt s 0 ≠ [] then (match a_search s ts (pt s) 1 with
        | some r => if dl s ≠ 0 ∧ ¬ ts.length < 20 then (.inr 4, (now, lat, ts, line, dl, dr, pt, la, jo, tk, fn, os))
          else (.inl (i (lat + 1)), a_put s (i 0) (now, lat, a_grant s (dl s) true ts r, line, dl, dr, pt, va_up la s (i 0), jo, tk, va_up fn s r, os))
        | none => (.inl im, (now, lat, ts, line, dl, dr, pt, va_up la s (i 0), jo, tk, va_up fn s a_fn0, os)))
      else (.inr 3, (now, lat, ts, line, dl, dr, pt, la, jo, tk, fn, os))
/-- one step of folding -/
def a_fold1 (s : Nat) (g : List Fm) (fi : Nat) (w : Int32) (q : Int64 × Bool) (t : Tp) : Int64 × Bool :=
  if a_sees (i s) t = true ∧ (a_fits g (t_fs t) [] bd0).isSome = true then
    (if w = 0 then (q.1 + 1, q.2) else match (t_fs t)[fi]? with
      | some x => if x.1 = i 0 then (if q.2 = true then (if w = 1 then q.1 + x.2 else if w = 2 then (if x.2 < q.1 then x.2 else q.1) else (if x.2 < q.1 then q.1 else x.2)) else x.2, true) else q
      | none => q)
  else q
def o_fold (n : Nat) (x fi w : Int32) : Sq → (Int64 ⊕ Nat) × Sq
  | (now, lat, ts, line, dl, dr, pt, la, jo, tk, fn, os) => match a_first n line x with
    | .inr e => (.inr e, (now, lat, ts, line, dl, dr, pt, la, jo, tk, fn, os))
    | .inl s => if pt s 0 ≠ [] ∧ 0 ≤ fi ∧ fi < 4 ∧ 0 ≤ w ∧ w ≤ 3 then (.inl (ts.foldl (a_fold1 s (pt s 0) fi.toNatClampNeg w) (0, false)).1, (now, lat, ts, line, dl, dr, pt, la, jo, tk, fn, os)) else (.inr 3, (now, lat, ts, line, dl, dr, pt, la, jo, tk, fn, os))
def o_order (n : Nat) (x : Int32) : Sq → (Int32 ⊕ Nat) × Sq
  | (now, lat, ts, line, dl, dr, pt, la, jo, tk, fn, os) => match a_first n line x with
    | .inr e => (.inr e, (now, lat, ts, line, dl, dr, pt, la, jo, tk, fn, os))
    | .inl s => if pt s 0 ≠ [] then (if os.length < 6 then (.inl (i os.length), (now, lat, ts, line, dl, dr, pt, la, jo, tk, fn, os ++ [(pt s 0, [], false)])) else (.inr 4, (now, lat, ts, line, dl, dr, pt, la, jo, tk, fn, os))) else (.inr 3, (now, lat, ts, line, dl, dr, pt, la, jo, tk, fn, os))
def o_collect (k : Int32) : Sq → (Int32 ⊕ Nat) × Sq
  | (now, lat, ts, line, dl, dr, pt, la, jo, tk, fn, os) => if 0 ≤ k then (match os[k.toNatClampNeg]? with
      | some o => (.inl (a_collect o).1, (now, lat, ts, line, dl, dr, pt, la, jo, tk, fn, os.set k.toNatClampNeg (a_collect o).2))
      | none => (.inr 1, (now, lat, ts, line, dl, dr, pt, la, jo, tk, fn, os)))
    else (.inr 1, (now, lat, ts, line, dl, dr, pt, la, jo, tk, fn, os))
def o_open (n : Nat) (x : Int32) : Sq → (Int32 ⊕ Nat) × Sq
  | (now, lat, ts, line, dl, dr, pt, la, jo, tk, fn, os) => match a_first n line x with
    | .inr e => (.inr e, (now, lat, ts, line, dl, dr, pt, la, jo, tk, fn, os))
    | .inl s => if dl s < 4 then (.inl (i (dl s + 1)), (now, lat, ts, line, va_up dl s (dl s + 1), dr, pt, la, jo, tk, fn, os)) else (.inr 4, (now, lat, ts, line, dl, dr, pt, la, jo, tk, fn, os))
def o_commit (n : Nat) (x : Int32) : Sq → (Int32 ⊕ Nat) × Sq
  | (now, lat, ts, line, dl, dr, pt, la, jo, tk, fn, os) => match a_first n line x with
    | .inr e => (.inr e, (now, lat, ts, line, dl, dr, pt, la, jo, tk, fn, os))
    | .inl s => if dl s = 0 then (.inl im, (now, lat, ts, line, dl, dr, pt, la, jo, tk, fn, os))
      else (.inl (i (a_inDeal s (dl s) ts)), if dl s = 1 then (if (a_settle s ts os).2.2 = true then a_served else id) (now, lat, (a_settle s ts os).1, line, va_up dl s 0, dr, pt, la, jo, tk, fn, (a_settle s ts os).2.1)
        else (now, lat, ts.map (a_hand1 s (dl s)), line, va_up dl s (dl s - 1), dr, pt, la, jo, tk, fn, os))
def o_abandon (n : Nat) (x : Int32) : Sq → (Int32 ⊕ Nat) × Sq
  | (now, lat, ts, line, dl, dr, pt, la, jo, tk, fn, os) => match a_first n line x with
    | .inr e => (.inr e, (now, lat, ts, line, dl, dr, pt, la, jo, tk, fn, os))
    | .inl s => if dl s = 0 then (.inl im, (now, lat, ts, line, dl, dr, pt, la, jo, tk, fn, os))
      else (.inl (i (a_inDeal s (dl s) ts)), (if a_freed s (dl s) ts = true then a_served else id) (now, lat, a_undo s (dl s) ts, line, va_up dl s (dl s - 1), dr, pt, la, jo, tk, fn, os))
def o_renew (n : Nat) (x m y : Int32) : Sq → (Int32 ⊕ Nat) × Sq
  | (now, lat, ts, line, dl, dr, pt, la, jo, tk, fn, os) => match a_first n line x with
    | .inr e => (.inr e, (now, lat, ts, line, dl, dr, pt, la, jo, tk, fn, os))
    | .inl s => if a_span y = true then (match ts.find? (fun t => decide (t_num t = m)) with
        | some t => if a_sees (i s) t = true then (.inl (i 1), (now, lat, ts.map (fun t => if t_num t = m then t_setE t (a_lease now y) else t), line, dl, dr, pt, la, jo, tk, fn, os)) else (.inl (i 0), (now, lat, ts, line, dl, dr, pt, la, jo, tk, fn, os))
        | none => (.inl (i 0), (now, lat, ts, line, dl, dr, pt, la, jo, tk, fn, os)))
      else (.inr 3, (now, lat, ts, line, dl, dr, pt, la, jo, tk, fn, os))
def o_session (n : Nat) (x w : Int32) : Sq → Int32 ⊕ Nat
  | (_, _, _, line, dl, dr, pt, la, _, _, _, _) => if a_sess n x = true then .inl (if w = i 0 then (if x.toNatClampNeg ∈ line then i 1 else la x.toNatClampNeg) else if w = i 1 then i (dl x.toNatClampNeg) else if w = i 2 then i (dr x.toNatClampNeg).length else if w = i 3 then i (pt x.toNatClampNeg 0).length else if w = i 4 then i (pt x.toNatClampNeg 1).length else if w = i 5 then i (pt x.toNatClampNeg 2).length else if w = i 6 then a_place line x else im) else .inr 1
def a_found (r : Fq) (w : Int32) : Int64 :=
  if w < 0 then -1
  else if w < 3 then (r.1.getD w.toNatClampNeg im).toInt64
  else if w < 7 then (match r.2 (w.toNatClampNeg - 3) with | some x => x.1 | none => im).toInt64
  else if w < 11 then (match r.2 (w.toNatClampNeg - 7) with | some x => x.2 | none => 0)
  else -1
def o_found (n : Nat) (x w : Int32) : Sq → Int64 ⊕ Nat
  | (_, _, _, _, _, _, _, _, _, _, fn, _) => if a_sess n x = true then .inl (a_found (fn x.toNatClampNeg) w) else .inr 1
def o_seen (n : Nat) (x k : Int32) : Sq → Int32 ⊕ Nat
  | (_, _, ts, _, _, _, _, _, _, _, _, _) => if a_sess n x = true then .inl (if 0 ≤ k then (match (ts.filter (a_sees x))[k.toNatClampNeg]? with | some t => t_num t | none => im) else im) else .inr 1
def a_about (t : Tp) (w : Int32) : Int64 :=
  if w = i 0 then (i (t_fs t).length).toInt64
  else if w = i 1 then (t_end t).toInt64
  else if w = i 2 then (t_pS t).toInt64
  else if w = i 3 then (t_tS t).toInt64
  else if w < 0 then -1
  else if w < 8 then (match (t_fs t)[w.toNatClampNeg - 4]? with | some x => x.1.toInt64 | none => -1)
  else (match (t_fs t)[w.toNatClampNeg - 8]? with | some x => x.2 | none => -1)
def o_about (m w : Int32) : Sq → Int64
  | (_, _, ts, _, _, _, _, _, _, _, _, _) => match ts.find? (fun t => decide (t_num t = m)) with
    | some t => a_about t w
    | none => -1
