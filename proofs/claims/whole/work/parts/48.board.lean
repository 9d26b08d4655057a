/-! The class's board: what changes it. Ours. -/
/-- one row out of many -/
theorem Rw_hole {P : Nat → Nat} (hP : okP P) : ∀ {m j r : Nat} {σ : J} {ts : List Tp}, Rw P σ j m ts → j + m ≤ 20 → j ≤ r → r < j + m → σ.1 4 0 (P r) = i 1 → ∃ t pre post, ts = pre ++ t :: post ∧ cT σ (P r) t ∧ ∀ τ : J, fr (fun a b => a = 4 ∧ b = P r) σ τ → (τ.1 4 0 (P r) = i 0 → Rw P τ j m (pre ++ post)) ∧ ∀ t1, cT τ (P r) t1 → Rw P τ j m (pre ++ t1 :: post) := by
  intro m
  induction m with
  | zero => intro j r σ ts h h1 h2 h3; omega
  | succ m ih =>
    intro j r σ ts h h1 h2 h3 hT
    by_cases hr : r = j
    · subst hr
      rcases h with ⟨g1, g2⟩ | ⟨t2, ts1, g1, g2, g3⟩
      · rw [hT] at g1
        exact absurd g1 (by decide)
      · exact ⟨t2, [], ts1, g1, g2, fun τ hf => ⟨fun h0 => Or.inl ⟨h0, RwO hP (by omega) hf g3⟩, fun t1 ht1 => Or.inr ⟨t1, ts1, rfl, ht1, RwO hP (by omega) hf g3⟩⟩⟩
    · have hne : P j ≠ P r := fun e => hr (hP.2 r j (by omega) (by omega) e.symm)
      have hz : ∀ a : Nat, ¬ (a = 4 ∧ P j = P r) := fun a q => hne q.2
      rcases h with ⟨g1, g2⟩ | ⟨t2, ts1, g1, g2, g3⟩
      · obtain ⟨t, pre, post, e1, e0, e2⟩ := ih g2 (by omega) (by omega) (by omega) hT
        exact ⟨t, pre, post, e1, e0, fun τ hf => ⟨fun h0 => Or.inl ⟨by rw [(hf 4 (P j) (hz 4)).1]; exact g1, (e2 τ hf).1 h0⟩, fun t1 ht1 => Or.inl ⟨by rw [(hf 4 (P j) (hz 4)).1]; exact g1, (e2 τ hf).2 t1 ht1⟩⟩⟩
      · obtain ⟨t, pre, post, e1, e0, e2⟩ := ih g3 (by omega) (by omega) (by omega) hT
        refine ⟨t, t2 :: pre, post, by rw [g1, e1]; rfl, e0, fun τ hf => ⟨fun h0 => Or.inr ⟨t2, _, rfl, g2.fr hf (hz 4) (hz 5) (hz 6) (hz 7), (e2 τ hf).1 h0⟩, fun t1 ht1 => Or.inr ⟨t2, _, rfl, g2.fr hf (hz 4) (hz 5) (hz 6) (hz 7), (e2 τ hf).2 t1 ht1⟩⟩⟩
theorem fr4 {σ : J} {z f : Nat} {v : Int32} : fr (fun a b => a = 4 ∧ b = z) σ (q_sI σ 4 f z v) := fr.rf.sI ⟨rfl, rfl⟩
theorem fr4' {σ τ : J} {z f : Nat} {v : Int32} (h : fr (fun a b => a = 4 ∧ b = z) σ τ) : fr (fun a b => a = 4 ∧ b = z) σ (q_sI τ 4 f z v) := h.sI ⟨rfl, rfl⟩
theorem fr.P3 {Z : Nat → Nat → Prop} {σ τ : J} (h : fr Z σ τ) (hz : ¬ Z 3 0) : τ.2.2.2 3 0 = σ.2.2.2 3 0 := (h 3 0 hz).2.2.2
theorem Zr3 {P : Nat → Nat} {j a b : Nat} (h : a ≠ 4) : ¬ Zr P j a b := fun q => h q.1
/-- numbers and leases stay, nothing comes back -/
def kO (σ τ : J) : Prop := ∀ z, τ.1 4 1 z = σ.1 4 1 z ∧ τ.1 4 2 z = σ.1 4 2 z ∧ (τ.1 4 0 z = i 0 ∨ τ.1 4 0 z = σ.1 4 0 z)
theorem kO.rf {σ : J} : kO σ σ := fun _ => ⟨rfl, rfl, Or.inr rfl⟩
theorem kO.tr {σ τ υ : J} (h1 : kO σ τ) (h2 : kO τ υ) : kO σ υ := fun z => ⟨(h2 z).1.trans (h1 z).1, (h2 z).2.1.trans (h1 z).2.1, by
  rcases (h2 z).2.2 with h | h
  · exact Or.inl h
  · rcases (h1 z).2.2 with g | g
    · exact Or.inl (h.trans g)
    · exact Or.inr (h.trans g)⟩
theorem kO.off {σ : J} {z : Nat} : kO σ (q_sI σ 4 0 z 0) := fun y => ⟨by rw [sI1, if_neg (by omega)], by rw [sI1, if_neg (by omega)], by
  rw [sI1]
  split
  · exact Or.inl rfl
  · exact Or.inr rfl⟩
theorem kO.fld {σ : J} {k f z : Nat} {v : Int32} (h : k ≠ 4 ∨ 3 ≤ f) : kO σ (q_sI σ k f z v) := fun y => ⟨by rw [sI1, if_neg (by omega)], by rw [sI1, if_neg (by omega)], Or.inr (by rw [sI1, if_neg (by omega)])⟩
theorem kO.fr {Z : Nat → Nat → Prop} {σ τ : J} (h : fr Z σ τ) (hz : ∀ z, ¬ Z 4 z) : kO σ τ := fun z => ⟨(h 4 z (hz z)).1 1, (h 4 z (hz z)).1 2, Or.inr ((h 4 z (hz z)).1 0)⟩
/-- a loop over the rows: what is done with each -/
theorem Board_undo_L {n u : Nat} {s d : Int32} (hu : u ≤ 20) {P : Nat → Nat} (hP : okP P) : ∀ (m j f : Nat) (acc : Bool) (σ : J) (ts : List Tp), σ.1 2 1 0 = i u → σ.2.2.2 3 0 = P → Rw P σ j m ts → j + m = u → m < f → wp (Board_undo_L5 n f s d (b01 acc) (i j) σ) (fun q => q.1 = b01 (acc || ts.any (fun t => !(a_isP s d t) && a_isT s d t)) ∧ fr (Zr P j) σ q.2 ∧ Rw P q.2 j m (ts.filterMap (a_undo1 s d)) ∧ kO σ q.2) := by
  intro m
  induction m with
  | zero =>
    intro j f acc σ ts hu1 hP1 h hj hf
    obtain ⟨f, rfl⟩ : ∃ g, f = g + 1 := ⟨f - 1, by omega⟩
    rw [show ts = [] from h]
    unfold Board_undo_L5 Board_undo_b5
    rw [hu1, if_pos (by rw [i_le (by omega) (by omega)]; omega)]
    simp only [b01_a, if_true, wp_some]
    exact ⟨by simp, fr.rf, rfl, kO.rf⟩
  | succ m ih =>
    intro j f acc σ ts hu1 hP1 h hj hf
    obtain ⟨f, rfl⟩ : ∃ g, f = g + 1 := ⟨f - 1, by omega⟩
    have hPj : Nat.blt (P j) 20 = true := by rw [blt_eq]; exact hP.1 j (by omega)
    have hin : q_in (i j) 20 = true := by rw [i_in (by omega)]; omega
    have hlo : ∀ a, ¬ Zr P (j + 1) a (P j) := fun a => Zr.lo hP (by omega) (by omega)
    unfold Board_undo_L5 Board_undo_b5 Board_undo_b59
    rw [hu1, if_neg (by rw [i_le (by omega) (by omega)]; omega), if_pos hin, i_n (by omega), hP1, if_pos hPj]
    simp only [and1_0, if_true, bs_eq, l1, i_add]
    rcases h with ⟨h1, h2⟩ | ⟨t, ts1, rfl, h2, h3⟩
    · rw [off_isP h1, some_bind, if_pos (show b01 false = 0 from rfl), off_isT h1, some_bind, if_pos (show b01 false = 0 from rfl)]
      refine wp_mono (ih (j + 1) f acc σ ts hu1 hP1 h2 (by omega) (by omega)) (fun q hq => ⟨hq.1, hq.2.1.next, Or.inl ⟨?_, hq.2.2.1⟩, hq.2.2.2⟩)
      rw [(hq.2.1 4 (P j) (hlo 4)).1]
      exact h1
    · rw [h2.isP, some_bind]
      dsimp only
      by_cases hp : a_isP s d t = true
      · rw [if_neg (by rw [b01_0, hp]; decide)]
        have hfr : fr (fun a b => a = 4 ∧ b = P j) σ (q_sI σ 4 0 (P j) 0) := fr4
        refine wp_mono (ih (j + 1) f acc _ ts1 hu1 hP1 (RwO hP (by omega) hfr h3) (by omega) (by omega)) (fun q hq => ⟨?_, (hfr.one (by omega)).tr hq.2.1.next, Or.inl ⟨?_, ?_⟩, kO.off.tr hq.2.2.2⟩)
        · rw [hq.1]
          simp [hp]
        · rw [(hq.2.1 4 (P j) (hlo 4)).1, sI1, if_pos ⟨rfl, rfl, rfl⟩]
          rfl
        · rw [List.filterMap_cons, show a_undo1 s d t = none from by unfold a_undo1; rw [if_pos hp]]
          exact hq.2.2.1
      · rw [if_pos (by rw [b01_0]; simpa using hp), h2.isT, some_bind]
        dsimp only
        by_cases ht : a_isT s d t = true
        · rw [if_neg (by rw [b01_0, ht]; decide), Tuple_giveBack_q, some_bind]
          have hfr : fr (fun a b => a = 4 ∧ b = P j) σ (q_sI (q_sI σ 4 5 (P j) im) 4 6 (P j) im) := fr4' fr4
          have hT1 := h2.setT (a := im) (b := im)
          refine wp_mono (ih (j + 1) f true _ ts1 hu1 hP1 (RwO hP (by omega) hfr h3) (by omega) (by omega)) (fun q hq => ⟨?_, (hfr.one (by omega)).tr hq.2.1.next, Or.inr ⟨t_setT t im im, ts1.filterMap (a_undo1 s d), ?_, hT1.fr hq.2.1 (hlo 4) (hlo 5) (hlo 6) (hlo 7), hq.2.2.1⟩, (kO.fld (f := 5) (by omega)).tr ((kO.fld (f := 6) (by omega)).tr hq.2.2.2)⟩)
          · rw [hq.1]
            simp [hp, ht]
          · rw [List.filterMap_cons, show a_undo1 s d t = some (t_setT t im im) from by unfold a_undo1; rw [if_neg hp, if_pos ht]]
        · rw [if_pos (by rw [b01_0]; simpa using ht)]
          refine wp_mono (ih (j + 1) f acc σ ts1 hu1 hP1 h3 (by omega) (by omega)) (fun q hq => ⟨?_, hq.2.1.next, Or.inr ⟨t, ts1.filterMap (a_undo1 s d), ?_, h2.fr hq.2.1 (hlo 4) (hlo 5) (hlo 6) (hlo 7), hq.2.2.1⟩, hq.2.2.2⟩)
          · rw [hq.1]
            simp [hp, ht]
          · rw [List.filterMap_cons, show a_undo1 s d t = some t from by unfold a_undo1; rw [if_neg hp, if_neg ht]]

/-- the tuples' objects -/
def Z4 : Nat → Nat → Prop := fun a b => a = 4 ∧ b < 20
theorem Zr.z4 {P : Nat → Nat} {j : Nat} (hP : okP P) {σ τ : J} (h : fr (Zr P j) σ τ) : fr Z4 σ τ := h.up (fun a b q => ⟨q.1, by obtain ⟨r, -, h2, h3⟩ := q.2; rw [h3]; exact hP.1 r h2⟩)
theorem Board_undo_s {n f s d : Nat} {σ : J} {ts : List Tp} (h : cB σ ts) (hf : 30 ≤ f) : wp (Board_undo n f (i s) (i d) σ) (fun q => q.1 = b01 (a_freed s d ts) ∧ fr Z4 σ q.2 ∧ cB q.2 (a_undo s d ts) ∧ kO σ q.2) := by
  obtain ⟨u, h1, h2, h3, h4⟩ := h
  refine wp_mono (Board_undo_L (n := n) (s := i s) (d := i d) h1 h3 u 0 f false σ ts h2 rfl h4 (by omega) (by omega)) (fun q hq => ?_)
  refine ⟨?_, Zr.z4 h3 hq.2.1, ⟨u, h1, by rw [(hq.2.1 2 0 (Zr3 (by decide))).1]; exact h2, by rw [hq.2.1.P3 (Zr3 (by decide))]; exact h3, by rw [hq.2.1.P3 (Zr3 (by decide))]; exact hq.2.2.1⟩, hq.2.2.2⟩
  rw [hq.1, Bool.false_or]
  rfl
theorem Board_handOver_L {n u s d : Nat} (hu : u ≤ 20) (hd : 2 ≤ d ∧ d ≤ 4) {P : Nat → Nat} (hP : okP P) : ∀ (m j f : Nat) (σ : J) (ts : List Tp), σ.1 2 1 0 = i u → σ.2.2.2 3 0 = P → Rw P σ j m ts → j + m = u → m < f → wp (Board_handOver_L2 n f (i s) (i d) (i j) σ) (fun q => fr (Zr P j) σ q ∧ Rw P q j m (ts.map (a_hand1 s d))) := by
  intro m
  induction m with
  | zero =>
    intro j f σ ts hu1 hP1 h hj hf
    obtain ⟨f, rfl⟩ : ∃ g, f = g + 1 := ⟨f - 1, by omega⟩
    rw [show ts = [] from h]
    unfold Board_handOver_L2 Board_handOver_b2
    rw [hu1, if_pos (by rw [i_le (by omega) (by omega)]; omega), wp_some]
    exact ⟨fr.rf, rfl⟩
  | succ m ih =>
    intro j f σ ts hu1 hP1 h hj hf
    obtain ⟨f, rfl⟩ : ∃ g, f = g + 1 := ⟨f - 1, by omega⟩
    have hPj : Nat.blt (P j) 20 = true := by rw [blt_eq]; exact hP.1 j (by omega)
    have hin : q_in (i j) 20 = true := by rw [i_in (by omega)]; omega
    have hlo : ∀ a, ¬ Zr P (j + 1) a (P j) := fun a => Zr.lo hP (by omega) (by omega)
    have hd0 : ¬ i (d - 1) = 0 := by rw [l0, i_eq (by omega) (by omega)]; omega
    unfold Board_handOver_L2 Board_handOver_b2 Board_handOver_b37 Board_handOver_b56
    rw [hu1, if_neg (by rw [i_le (by omega) (by omega)]; omega), if_pos hin, i_n (by omega), hP1, if_pos hPj]
    rcases h with ⟨h1, h2⟩ | ⟨t, ts1, rfl, h2, h3⟩
    · rw [off_isP h1, some_bind, if_pos (show b01 false = 0 from rfl), off_isT h1, some_bind, if_pos (show b01 false = 0 from rfl), l1, i_add]
      refine wp_mono (ih (j + 1) f σ ts hu1 hP1 h2 (by omega) (by omega)) (fun q hq => ⟨hq.1.next, Or.inl ⟨?_, hq.2⟩⟩)
      rw [(hq.1 4 (P j) (hlo 4)).1]
      exact h1
    · have key : ∀ (σ1 : J) (t1 : Tp), fr (fun a b => a = 4 ∧ b = P j) σ σ1 → cT σ1 (P j) t1 → (if a_isT (i s) (i d) t1 = true then t_setT t1 (i s) (i (d - 1)) else t1) = a_hand1 s d t → wp ((Tuple_isTakenBy n (P j) (i s) (i d) σ1).bind fun q3 => if q3.1 = 0 then Board_handOver_L2 n f (i s) (i d) (i j + 1) q3.2 else (Tuple_takeFor n (P j) (i s) (i d - 1) q3.2).bind fun q4 => Board_handOver_L2 n f (i s) (i d) (i j + 1) q4) (fun q => fr (Zr P j) σ q ∧ Rw P q j (m + 1) ((t :: ts1).map (a_hand1 s d))) := by
        intro σ1 t1 hf1 hT1 he
        rw [hT1.isT, some_bind, l1, i_add, i_sub (by omega)]
        dsimp only
        by_cases ht : a_isT (i s) (i d) t1 = true
        · rw [if_pos ht] at he
          rw [if_neg (by rw [b01_0, ht]; decide), Tuple_takeFor_q, some_bind, if_neg hd0]
          have hf2 : fr (fun a b => a = 4 ∧ b = P j) σ (q_sI (q_sI σ1 4 5 (P j) (i s)) 4 6 (P j) (i (d - 1))) := fr4' (fr4' hf1)
          have hT2 := hT1.setT (a := i s) (b := i (d - 1))
          have hu2 : (q_sI (q_sI σ1 4 5 (P j) (i s)) 4 6 (P j) (i (d - 1))).1 2 1 0 = i u := by rw [(hf2 2 0 (by omega)).1]; exact hu1
          have hp2 : (q_sI (q_sI σ1 4 5 (P j) (i s)) 4 6 (P j) (i (d - 1))).2.2.2 3 0 = P := by rw [hf2.P3 (by omega)]; exact hP1
          refine wp_mono (ih (j + 1) f _ ts1 hu2 hp2 (RwO hP (by omega) hf2 h3) (by omega) (by omega)) (fun q hq => ⟨(hf2.one (by omega)).tr hq.1.next, Or.inr ⟨a_hand1 s d t, ts1.map (a_hand1 s d), rfl, ?_, hq.2⟩⟩)
          rw [← he]
          exact hT2.fr hq.1 (hlo 4) (hlo 5) (hlo 6) (hlo 7)
        · rw [if_neg ht] at he
          rw [if_pos (by rw [b01_0]; simpa using ht)]
          refine wp_mono (ih (j + 1) f σ1 ts1 (by rw [(hf1 2 0 (by omega)).1]; exact hu1) (by rw [hf1.P3 (by omega)]; exact hP1) (RwO hP (by omega) hf1 h3) (by omega) (by omega)) (fun q hq => ⟨(hf1.one (by omega)).tr hq.1.next, Or.inr ⟨a_hand1 s d t, ts1.map (a_hand1 s d), rfl, ?_, hq.2⟩⟩)
          rw [← he]
          exact hT1.fr hq.1 (hlo 4) (hlo 5) (hlo 6) (hlo 7)
      rw [h2.isP, some_bind]
      dsimp only
      by_cases hp : a_isP (i s) (i d) t = true
      · rw [if_neg (by rw [b01_0, hp]; decide), Tuple_putInto_q, some_bind]
        have e1 : i d - 1 = i (d - 1) := by rw [l1, i_sub (by omega)]
        rw [e1]
        have := key _ _ (fr4' (f := 4) (v := i (d - 1)) (fr4 (σ := σ) (f := 3) (v := i s))) (h2.setP (a := i s) (b := i (d - 1))) (by unfold a_hand1; rw [if_pos hp])
        rw [e1] at this
        exact this
      · rw [if_pos (by rw [b01_0]; simpa using hp)]
        exact key σ t fr.rf h2 (by unfold a_hand1; rw [if_neg hp])
theorem Board_handOver_s {n f s d : Nat} {σ : J} {ts : List Tp} (h : cB σ ts) (hd : 2 ≤ d ∧ d ≤ 4) (hf : 30 ≤ f) : wp (Board_handOver n f (i s) (i d) σ) (fun q => fr Z4 σ q ∧ cB q (ts.map (a_hand1 s d))) := by
  obtain ⟨u, h1, h2, h3, h4⟩ := h
  refine wp_mono (Board_handOver_L (n := n) (s := s) (d := d) h1 hd h3 u 0 f σ ts h2 rfl h4 (by omega) (by omega)) (fun q hq => ?_)
  exact ⟨Zr.z4 h3 hq.1, u, h1, by rw [(hq.1 2 0 (Zr3 (by decide))).1]; exact h2, by rw [hq.1.P3 (Zr3 (by decide))]; exact h3, by rw [hq.1.P3 (Zr3 (by decide))]; exact hq.2⟩
