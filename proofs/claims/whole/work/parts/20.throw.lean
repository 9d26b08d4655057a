/-! Throwing: a fresh exception leaves a method; a call that throws. Ours. -/
section REB
variable {p : Program} {l : Launch} {e : Env} {R : Room} {s : State} {m : MethodId} {args : Array Value} {below : List Frame} {meth : Method} {c : Code} {T : State} {locs : List Loc} {cells slots : Nat}
/-- the invocation's state with the heap as it is now: from there on nothing has been written -/
abbrev q_now (s T : State) : State := { s with heap := T.heap, slotsUsed := T.slotsUsed }
theorem q_rebase (X : Stand p l e R s m args below meth c T locs cells slots) {a b : Nat} (hc : cells + a ≤ R.cells) (hs : slots + b ≤ R.slots) :
    Stand p l e { frames := R.frames, cells := a, slots := b, locals := R.locals } (q_now s T) m args below meth c T [] 0 0 := by
  have hroom : (q_now s T).hasRoom e.platform { frames := R.frames, cells := a, slots := b, locals := R.locals } = true := by
    have h := X.room
    have h1 := X.heapSize
    have h2 := X.used
    have h3 := X.book
    simp only [State.hasRoom, Bool.and_eq_true, decide_eq_true_eq] at h ⊢
    obtain ⟨⟨⟨⟨g1, g2⟩, g3⟩, g4⟩, g5⟩ := h
    refine ⟨⟨⟨⟨g1, g2⟩, ?_⟩, ?_⟩, h3⟩
    · show T.heap.size + a ≤ _
      omega
    · show T.slotsUsed + b ≤ _
      omega
  refine ⟨X.admits, X.cas, X.clock, X.frames, hroom, X.hears, X.method, X.code, X.here, X.tail, X.warmed, X.limits, X.bytes, ?_⟩
  obtain ⟨e2, q2, q3, q4, q5, q6⟩ := X.same
  refine ⟨e2, Nat.le_refl _, Nat.le_refl _, ?_, ?_, fun a c h => ⟨c, h, rfl, rfl, fun _ _ => rfl⟩⟩
  · show T.slotsUsed = T.slotsUsed + ((T.heap.toList.drop T.heap.size).map (·.slots.size)).sum
    rw [List.drop_eq_nil_of_le (by simp)]
    rfl
  · show ((T.heap.toList.drop T.heap.size).map (·.slots.size)).sum ≤ 0
    rw [List.drop_eq_nil_of_le (by simp)]
    exact Nat.le_refl _
end REB
