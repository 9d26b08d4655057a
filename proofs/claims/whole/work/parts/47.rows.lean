/-! The class's board, row by row. Ours. -/
/-- m rows from row j on hold these tuples; the others are gone -/
def Rw (P : Nat → Nat) (σ : J) : Nat → Nat → List Tp → Prop
  | _, 0, ts => ts = []
  | j, m + 1, ts => (σ.1 4 0 (P j) = i 0 ∧ Rw P σ (j + 1) m ts) ∨ ∃ t ts1, ts = t :: ts1 ∧ cT σ (P j) t ∧ Rw P σ (j + 1) m ts1
def okP (P : Nat → Nat) : Prop := (∀ j, j < 20 → P j < 20) ∧ ∀ j k, j < 20 → k < 20 → P j = P k → j = k
def cB (σ : J) (ts : List Tp) : Prop := ∃ u, u ≤ 20 ∧ σ.1 2 1 0 = i u ∧ okP (σ.2.2.2 3 0) ∧ Rw (σ.2.2.2 3 0) σ 0 u ts
theorem Rw.fr {P : Nat → Nat} {Z : Nat → Nat → Prop} {σ τ : J} (hf : fr Z σ τ) : ∀ {m j : Nat} {ts : List Tp}, (∀ r, j ≤ r → r < j + m → ¬ Z 4 (P r) ∧ ¬ Z 5 (P r) ∧ ¬ Z 6 (P r) ∧ ¬ Z 7 (P r)) → Rw P σ j m ts → Rw P τ j m ts := by
  intro m
  induction m with
  | zero => intro j ts _ h; exact h
  | succ m ih =>
    intro j ts hz h
    have hj := hz j (Nat.le_refl _) (by omega)
    rcases h with ⟨h1, h2⟩ | ⟨t, ts1, h1, h2, h3⟩
    · exact Or.inl ⟨by rw [(hf 4 (P j) hj.1).1]; exact h1, ih (fun r a b => hz r (by omega) (by omega)) h2⟩
    · exact Or.inr ⟨t, ts1, h1, h2.fr hf hj.1 hj.2.1 hj.2.2.1 hj.2.2.2, ih (fun r a b => hz r (by omega) (by omega)) h3⟩
theorem Rw.len {P : Nat → Nat} {σ : J} : ∀ {m j : Nat} {ts : List Tp}, Rw P σ j m ts → ts.length ≤ m := by
  intro m
  induction m with
  | zero => intro j ts h; rw [h]; exact Nat.le_refl _
  | succ m ih =>
    intro j ts h
    rcases h with ⟨h1, h2⟩ | ⟨t, ts1, h1, h2, h3⟩
    · exact Nat.le_succ_of_le (ih h2)
    · rw [h1]; exact Nat.succ_le_succ (ih h3)
theorem cB.len {σ : J} {ts : List Tp} (h : cB σ ts) : ts.length ≤ 20 := by
  obtain ⟨u, h1, -, -, h4⟩ := h
  have := h4.len
  omega
theorem cB.fr {Z : Nat → Nat → Prop} {σ τ : J} {ts : List Tp} (h : cB σ ts) (hf : fr Z σ τ) (h2 : ¬ Z 2 0) (h3 : ¬ Z 3 0) (h4 : ∀ z, z < 20 → ¬ Z 4 z ∧ ¬ Z 5 z ∧ ¬ Z 6 z ∧ ¬ Z 7 z) : cB τ ts := by
  obtain ⟨u, g1, g2, g3, g4⟩ := h
  refine ⟨u, g1, by rw [(hf 2 0 h2).1]; exact g2, by rw [(hf 3 0 h3).2.2.2]; exact g3, ?_⟩
  rw [(hf 3 0 h3).2.2.2]
  exact g4.fr hf (fun r _ hr => h4 _ (g3.1 r (by omega)))
theorem cF.sI {σ : J} {z k f y : Nat} {v : Int32} {xs : List FV} (h : cF σ z xs) (hk : k ≠ 5) : cF (q_sI σ k f y v) z xs := by
  unfold cF
  rw [sI1, if_neg (fun q => hk q.1.symm), sI2]
  exact h
theorem cT.setT {σ : J} {z : Nat} {t : Tp} {a b : Int32} (h : cT σ z t) : cT (q_sI (q_sI σ 4 5 z a) 4 6 z b) z (t_setT t a b) := by
  obtain ⟨h1, h2, h3, h4, h5, h6, h7, h8⟩ := h
  refine ⟨?_, ?_, ?_, ?_, ?_, ?_, ?_, (h8.sI (by decide)).sI (by decide)⟩ <;> simp (disch := omega) only [sI1, if_pos, if_neg, if_true, and_self] <;> first | assumption | rfl
theorem cT.setP {σ : J} {z : Nat} {t : Tp} {a b : Int32} (h : cT σ z t) : cT (q_sI (q_sI σ 4 3 z a) 4 4 z b) z (t_setP t a b) := by
  obtain ⟨h1, h2, h3, h4, h5, h6, h7, h8⟩ := h
  refine ⟨?_, ?_, ?_, ?_, ?_, ?_, ?_, (h8.sI (by decide)).sI (by decide)⟩ <;> simp (disch := omega) only [sI1, if_pos, if_neg, if_true, and_self] <;> first | assumption | rfl
theorem cT.setE {σ : J} {z : Nat} {t : Tp} {a : Int32} (h : cT σ z t) : cT (q_sI σ 4 2 z a) z (t_setE t a) := by
  obtain ⟨h1, h2, h3, h4, h5, h6, h7, h8⟩ := h
  refine ⟨?_, ?_, ?_, ?_, ?_, ?_, ?_, h8.sI (by decide)⟩ <;> simp (disch := omega) only [sI1, if_pos, if_neg, if_true, and_self] <;> first | assumption | rfl
/-- the objects of the rows from j on -/
def Zr (P : Nat → Nat) (j : Nat) : Nat → Nat → Prop := fun a b => a = 4 ∧ ∃ r, j ≤ r ∧ r < 20 ∧ b = P r
theorem Zr.lo {P : Nat → Nat} {j r : Nat} (hP : okP P) (hj : j ≤ 20) (hr : r < j) {a : Nat} : ¬ Zr P j a (P r) := fun ⟨_, r', h1, h2, h3⟩ => by
  have := hP.2 r r' (by omega) h2 h3
  omega
theorem RwO {P : Nat → Nat} {σ τ : J} {j m : Nat} {ts : List Tp} (hP : okP P) (hm : j + 1 + m ≤ 20) (hf : fr (fun a b => a = 4 ∧ b = P j) σ τ) (h : Rw P σ (j + 1) m ts) : Rw P τ (j + 1) m ts := by
  refine h.fr hf (fun r h1 h2 => ?_)
  have hne : P r ≠ P j := fun e => by
    have := hP.2 r j (by omega) (by omega) e
    omega
  exact ⟨fun q => hne q.2, fun q => hne q.2, fun q => hne q.2, fun q => hne q.2⟩
theorem fr.one {P : Nat → Nat} {σ τ : J} {j : Nat} (hj : j < 20) (h : fr (fun a b => a = 4 ∧ b = P j) σ τ) : fr (Zr P j) σ τ := h.up (fun a b q => ⟨q.1, j, Nat.le_refl _, hj, q.2⟩)
theorem fr.next {P : Nat → Nat} {σ τ : J} {j : Nat} (h : fr (Zr P (j + 1)) σ τ) : fr (Zr P j) σ τ := h.up (fun a b q => ⟨q.1, q.2.choose, by have := q.2.choose_spec; omega, q.2.choose_spec.2⟩)
/-- how many rows are on the board -/
theorem Board_isFull_L {n u : Nat} {σ : J} (hu : u ≤ 20) (hu1 : σ.1 2 1 0 = i u) (hP : okP (σ.2.2.2 3 0)) : ∀ (m j f acc : Nat) (ts : List Tp), Rw (σ.2.2.2 3 0) σ j m ts → j + m = u → m < f → acc ≤ j → Board_isFull_L4 n f (i acc) (i j) σ = some (b01 (decide (20 ≤ acc + ts.length)), σ) := by
  intro m
  induction m with
  | zero =>
    intro j f acc ts h hj hf ha
    obtain ⟨f, rfl⟩ : ∃ g, f = g + 1 := ⟨f - 1, by omega⟩
    rw [show ts = [] from h]
    unfold Board_isFull_L4 Board_isFull_b4 Board_isFull_b44
    rw [hu1, if_pos (by rw [i_le (by omega) (by omega)]; omega)]
    simp (disch := omega) only [l20, i_lt, and1_0, and1_1, if_true]
    by_cases h2 : acc < 20
    · rw [if_pos h2, decide_eq_false (by simp; omega)]; rfl
    · rw [if_neg h2, decide_eq_true (by simp; omega)]; rfl
  | succ m ih =>
    intro j f acc ts h hj hf ha
    obtain ⟨f, rfl⟩ : ∃ g, f = g + 1 := ⟨f - 1, by omega⟩
    have hPj := hP.1 j (by omega)
    unfold Board_isFull_L4 Board_isFull_b4 Board_isFull_b27
    rw [hu1, if_neg (by rw [i_le (by omega) (by omega)]; omega), if_pos (by rw [i_in (by omega)]; omega), i_n (by omega), if_pos (by rw [blt_eq]; exact hPj)]
    rcases h with ⟨h1, h2⟩ | ⟨t, ts1, rfl, h2, h3⟩
    · rw [h1, if_pos (show i 0 = 0 from rfl), l1, i_add]
      exact ih (j + 1) f acc ts h2 (by omega) (by omega) (by omega)
    · have := h3.len
      rw [h2.1, if_neg (by decide), l1, i_add, i_add, ih (j + 1) f (acc + 1) ts1 h3 (by omega) (by omega) (by omega), List.length_cons, show acc + 1 + ts1.length = acc + (ts1.length + 1) by omega]

theorem Board_isFull_s {n f : Nat} {σ : J} {ts : List Tp} (h : cB σ ts) (hf : 30 ≤ f) : Board_isFull n f σ = some (b01 (decide (20 ≤ ts.length)), σ) := by
  obtain ⟨u, h1, h2, h3, h4⟩ := h
  have := Board_isFull_L (n := n) h1 h2 h3 u 0 f 0 ts h4 (by omega) (by omega) (by omega)
  rw [Nat.zero_add] at this
  exact this
theorem Board_countInDeal_L {n u : Nat} {σ : J} {s d : Int32} (hu : u ≤ 20) (hu1 : σ.1 2 1 0 = i u) (hP : okP (σ.2.2.2 3 0)) : ∀ (m j f acc : Nat) (ts : List Tp), Rw (σ.2.2.2 3 0) σ j m ts → j + m = u → m < f → Board_countInDeal_L5 n f s d (i acc) (i j) σ = some (i (acc + ts.countP (fun t => a_isP s d t || a_isT s d t)), σ) := by
  intro m
  induction m with
  | zero =>
    intro j f acc ts h hj hf
    obtain ⟨f, rfl⟩ : ∃ g, f = g + 1 := ⟨f - 1, by omega⟩
    rw [show ts = [] from h]
    unfold Board_countInDeal_L5 Board_countInDeal_b5
    rw [hu1, if_pos (by rw [i_le (by omega) (by omega)]; omega)]
    rfl
  | succ m ih =>
    intro j f acc ts h hj hf
    obtain ⟨f, rfl⟩ : ∃ g, f = g + 1 := ⟨f - 1, by omega⟩
    have hPj : Nat.blt (σ.2.2.2 3 0 j) 20 = true := by rw [blt_eq]; exact hP.1 j (by omega)
    have hin : q_in (i j) 20 = true := by rw [i_in (by omega)]; omega
    unfold Board_countInDeal_L5 Board_countInDeal_b5 Board_countInDeal_b44 Board_countInDeal_b47
    rw [hu1, if_neg (by rw [i_le (by omega) (by omega)]; omega), if_pos hin, i_n (by omega), if_pos hPj]
    rcases h with ⟨h1, h2⟩ | ⟨t, ts1, rfl, h2, h3⟩
    · rw [off_isP h1, some_bind, if_pos (show b01 false = 0 from rfl), if_pos hin]
      dsimp only
      rw [if_pos hPj, off_isT h1, some_bind, if_pos (show b01 false = 0 from rfl), l1, i_add]
      exact ih (j + 1) f acc ts h2 (by omega) (by omega)
    · rw [h2.isP, some_bind, h2.isT, some_bind]
      dsimp only
      rw [if_pos hin, if_pos hPj, l1, i_add, i_add, ih (j + 1) f (acc + 1) ts1 h3 (by omega) (by omega), ih (j + 1) f acc ts1 h3 (by omega) (by omega), List.countP_cons]
      simp only [b01_0]
      cases a_isP s d t <;> cases a_isT s d t <;> simp <;> (congr 1; omega)
theorem Board_countInDeal_s {n f s d : Nat} {σ : J} {ts : List Tp} (h : cB σ ts) (hf : 30 ≤ f) : Board_countInDeal n f (i s) (i d) σ = some (i (a_inDeal s d ts), σ) := by
  obtain ⟨u, h1, h2, h3, h4⟩ := h
  have := Board_countInDeal_L (n := n) (s := i s) (d := i d) h1 h2 h3 u 0 f 0 ts h4 (by omega) (by omega)
  rw [Nat.zero_add] at this
  exact this
theorem Board_lookUp_L {n u : Nat} {σ : J} {N : Int32} (hu : u ≤ 20) (hu1 : σ.1 2 1 0 = i u) (hP : okP (σ.2.2.2 3 0)) : ∀ (m j f : Nat) (ts : List Tp), Rw (σ.2.2.2 3 0) σ j m ts → j + m = u → m < f → (Board_lookUp_L2 n f N (i j) σ = some (none, σ) ∧ ∀ t ∈ ts, t_num t ≠ N) ∨ ∃ r t, j ≤ r ∧ r < u ∧ Board_lookUp_L2 n f N (i j) σ = some (some (σ.2.2.2 3 0 r), σ) ∧ cT σ (σ.2.2.2 3 0 r) t ∧ t_num t = N ∧ t ∈ ts := by
  intro m
  induction m with
  | zero =>
    intro j f ts h hj hf
    obtain ⟨f, rfl⟩ : ∃ g, f = g + 1 := ⟨f - 1, by omega⟩
    rw [show ts = [] from h]
    unfold Board_lookUp_L2 Board_lookUp_b2
    rw [hu1, if_pos (by rw [i_le (by omega) (by omega)]; omega)]
    exact Or.inl ⟨rfl, fun t ht => by cases ht⟩
  | succ m ih =>
    intro j f ts h hj hf
    obtain ⟨f, rfl⟩ : ∃ g, f = g + 1 := ⟨f - 1, by omega⟩
    have hPj : Nat.blt (σ.2.2.2 3 0 j) 20 = true := by rw [blt_eq]; exact hP.1 j (by omega)
    have hin : q_in (i j) 20 = true := by rw [i_in (by omega)]; omega
    unfold Board_lookUp_L2 Board_lookUp_b2 Board_lookUp_b42
    rw [hu1, if_neg (by rw [i_le (by omega) (by omega)]; omega), if_pos hin, i_n (by omega), if_pos hPj, if_pos hin, if_pos hPj, if_pos hin, if_pos hPj, l1, i_add]
    rcases h with ⟨h1, h2⟩ | ⟨t, ts1, rfl, h2, h3⟩
    · rw [h1, if_pos (show i 0 = 0 from rfl)]
      rcases ih (j + 1) f ts h2 (by omega) (by omega) with g | ⟨r, t, g1, g⟩
      · exact Or.inl g
      · exact Or.inr ⟨r, t, by omega, g⟩
    · rw [h2.1, if_neg (by decide), h2.2.1]
      by_cases hN : t_num t = N
      · rw [if_pos hN]
        exact Or.inr ⟨j, t, Nat.le_refl _, by omega, rfl, h2, hN, List.mem_cons_self⟩
      · rw [if_neg hN]
        rcases ih (j + 1) f ts1 h3 (by omega) (by omega) with ⟨g1, g2⟩ | ⟨r, t1, g1, g2, g3, g4, g5, g6⟩
        · exact Or.inl ⟨g1, fun t1 ht => by
            rcases List.mem_cons.mp ht with rfl | ht
            · exact hN
            · exact g2 t1 ht⟩
        · exact Or.inr ⟨r, t1, by omega, g2, g3, g4, g5, List.mem_cons_of_mem _ g6⟩
