/-! Runs of the interpreter, step by step: what the written functions lean on. Ours. -/
def q_bs {α β : Type} (a : α) (k : α → β) : β := k a
theorem q_nm {α β : Type} {a : α} {k : α → β} {r : β} {G : α → Prop} (h : q_bs a k = r) (kk : ∀ x : α, k x = r → G x) : G a := kk a h
theorem q_by {α : Type} {c : Prop} {d : Decidable c} {x : Option α} {r : α} {G : Prop} (h : @ite (Option α) c d x none = some r) (k : c → x = some r → G) : G := by
  by_cases hc : c
  · rw [if_pos hc] at h
    exact k hc h
  · rw [if_neg hc] at h
    cases h
theorem q_byn {α : Type} {c : Prop} {d : Decidable c} {x : Option α} {r : α} {G : Prop} (h : @ite (Option α) c d none x = some r) (k : ¬ c → x = some r → G) : G := by
  by_cases hc : c
  · rw [if_pos hc] at h
    cases h
  · rw [if_neg hc] at h
    exact k hc h
theorem q_bt {b : Bool} (h : b = true) : (b && true) = true := by rw [h]; rfl
def q_L : List (Nat × PV) → PL
  | [] => fun _ => none
  | q :: r => fun b => bif Nat.beq b q.1 then some q.2 else q_L r b
def q_Ls (M : PL) : List (Nat × PV) → Prop
  | [] => True
  | q :: r => M q.1 = some q.2 ∧ q_Ls M r
theorem q_L_le {M : PL} : ∀ {l : List (Nat × PV)}, q_Ls M l → ∀ a, q_le (q_L l a) (M a) := by
  intro l
  induction l with
  | nil => intro _ a; exact q_le_n
  | cons q r ih =>
    intro h a
    show q_le (bif Nat.beq a q.1 then some q.2 else q_L r a) (M a)
    cases hb : Nat.beq a q.1 with
    | true =>
      obtain rfl := Nat.eq_of_beq_eq_true hb
      rw [h.1]
      exact q_le_r
    | false => exact ih h.2 a
theorem q_ex_ll {pr : Nat → Nat → Option Op} {n d k pc : Nat} {l : List (Nat × PV)} {M : PL} {st : List PV} {σ : J} {r : Res} (e : q_ex pr n d k pc (q_L l) st σ r) (h : q_Ls M l) : q_ex pr n d k pc M st σ r := q_ex_le (Nat.le_refl _) (q_L_le h) e
theorem q_ex_dd {pr : Nat → Nat → Option Op} {n d d' k pc : Nat} {L : PL} {st : List PV} {σ : J} {r : Res} (e : q_ex pr n d k pc L st σ r) (h : d ≤ d') : q_ex pr n d' k pc L st σ r := q_ex_le h (fun _ => q_le_r) e
section EX
variable {pr : Nat → Nat → Option Op} {n d k pc pc' pc1 pc2 : Nat} {L L' : PL} {st st' rest : List PV} {σ σ' σ'' : J} {r : Res}
theorem q_ex_gb (j : Nat) {b : Bool} (h : ∀ f, q_run pr n d (f + j) k pc L st σ = bif b then q_run pr n d f k pc' L' st' σ' else none) (hb : b = true) (e : q_ex pr n d k pc' L' st' σ' r) : q_ex pr n d k pc L st σ r := by
  obtain ⟨f, hf⟩ := e
  refine ⟨f + j, (h f).trans ?_⟩
  rw [hb]
  exact hf
theorem q_ex_gi (j : Nat) {c : Prop} {dc : Decidable c} (h : ∀ f, q_run pr n d (f + j) k pc L st σ = @ite _ c dc (q_run pr n d f k pc' L' st' σ') none) (hb : c) (e : q_ex pr n d k pc' L' st' σ' r) : q_ex pr n d k pc L st σ r := by
  obtain ⟨f, hf⟩ := e
  refine ⟨f + j, (h f).trans ?_⟩
  rw [if_pos hb]
  exact hf
theorem q_ex_gn (j : Nat) {c : Prop} {dc : Decidable c} (h : ∀ f, q_run pr n d (f + j) k pc L st σ = @ite _ c dc none (q_run pr n d f k pc' L' st' σ')) (hb : ¬ c) (e : q_ex pr n d k pc' L' st' σ' r) : q_ex pr n d k pc L st σ r := by
  obtain ⟨f, hf⟩ := e
  refine ⟨f + j, (h f).trans ?_⟩
  rw [if_neg hb]
  exact hf
theorem q_ex_g2 (j : Nat) {b b2 : Bool} (h : ∀ f, q_run pr n d (f + j) k pc L st σ = bif b then (bif b2 then q_run pr n d f k pc' L' st' σ' else none) else none) (hb : b = true) (hb2 : b2 = true) (e : q_ex pr n d k pc' L' st' σ' r) : q_ex pr n d k pc L st σ r := by
  obtain ⟨f, hf⟩ := e
  refine ⟨f + j, (h f).trans ?_⟩
  rw [hb, hb2]
  exact hf
theorem q_ex_gz (j : Nat) {b : Bool} {c : Prop} {dc : Decidable c} (h : ∀ f, q_run pr n d (f + j) k pc L st σ = bif b then (@ite _ c dc (q_run pr n d f k pc' L' st' σ') none) else none) (hb : b = true) (hb2 : c) (e : q_ex pr n d k pc' L' st' σ' r) : q_ex pr n d k pc L st σ r := by
  obtain ⟨f, hf⟩ := e
  refine ⟨f + j, (h f).trans ?_⟩
  rw [hb, if_pos hb2]
  exact hf
theorem q_ex_br (j : Nat) {c : Prop} {dc : Decidable c} (h : ∀ f, q_run pr n d (f + j) k pc L st σ = @ite _ c dc (q_run pr n d f k pc1 L' st' σ') (q_run pr n d f k pc2 L' st' σ')) (h1 : c → q_ex pr n d k pc1 L' st' σ' r) (h2 : ¬ c → q_ex pr n d k pc2 L' st' σ' r) : q_ex pr n d k pc L st σ r := by
  by_cases hc : c
  · obtain ⟨f, hf⟩ := h1 hc
    exact ⟨f + j, (h f).trans ((if_pos hc).trans hf)⟩
  · obtain ⟨f, hf⟩ := h2 hc
    exact ⟨f + j, (h f).trans ((if_neg hc).trans hf)⟩
def q_exsw (pr : Nat → Nat → Option Op) (n d k : Nat) (L : PL) (st : List PV) (σ : J) (r : Res) (x : Int32) (lo : Nat) (ts : List Nat) (t : Nat) : Prop := ∃ f, q_sw (fun t => q_run pr n d f k t L st σ) x lo ts t = some r
theorem q_ex_sw (j : Nat) {x : Int32} {lo t : Nat} {ts : List Nat} (h : ∀ f, q_run pr n d (f + j) k pc L st σ = q_sw (fun t => q_run pr n d f k t L' st' σ') x lo ts t) (e : q_exsw pr n d k L' st' σ' r x lo ts t) : q_ex pr n d k pc L st σ r := by
  obtain ⟨f, hf⟩ := e
  exact ⟨f + j, (h f).trans hf⟩
theorem q_sw_c {x : Int32} {lo t u : Nat} {ts : List Nat} (h1 : x = Int32.ofNat lo → q_ex pr n d k u L st σ r) (h2 : ¬ x = Int32.ofNat lo → q_exsw pr n d k L st σ r x (lo + 1) ts t) : q_exsw pr n d k L st σ r x lo (u :: ts) t := by
  by_cases hc : x = Int32.ofNat lo
  · obtain ⟨f, hf⟩ := h1 hc
    exact ⟨f, (if_pos hc).trans hf⟩
  · obtain ⟨f, hf⟩ := h2 hc
    exact ⟨f, (if_neg hc).trans hf⟩
theorem q_sw_d {x : Int32} {lo t : Nat} (h : q_ex pr n d k t L st σ r) : q_exsw pr n d k L st σ r x lo [] t := h
def q_okr (n : Nat) (v : Option PV) : Bool := match v with
  | none => true
  | some w => q_ok n w
theorem q_ex_ca (j : Nat) {k1 : Nat} {vs : List PV} {v : Option PV} (h : ∀ f, q_run pr n (d + 1) (f + j) k pc L st σ = (q_run pr n d f k1 0 (q_args 0 vs) [] σ').bind (q_af n (fun st2 σ2 => q_run pr n (d + 1) f k pc' L' st2 σ2) rest)) (hc : q_ex pr n d k1 0 (q_args 0 vs) [] σ' (.inl v, σ'')) (hv : q_okr n v = true) (e : q_ex pr n (d + 1) k pc' L' (v.toList ++ rest) σ'' r) : q_ex pr n (d + 1) k pc L st σ r := by
  obtain ⟨f1, h1⟩ := hc
  obtain ⟨f2, h2⟩ := e
  refine ⟨max f1 f2 + j, (h _).trans ?_⟩
  rw [q_run_mono f1 (max f1 f2) d d k1 0 _ _ _ _ (Nat.le_max_left _ _) (Nat.le_refl _) (fun _ => q_le_r) _ h1]
  have h3 := q_run_mono f2 (max f1 f2) (d + 1) (d + 1) k pc' _ _ _ _ (Nat.le_max_right _ _) (Nat.le_refl _) (fun _ => q_le_r) _ h2
  cases v with
  | none => exact h3
  | some w =>
    show (bif q_ok n w then _ else none) = _
    rw [show q_ok n w = true from hv]
    exact h3
theorem q_ex_cx (j : Nat) {k1 ex : Nat} {vs : List PV} (h : ∀ f, q_run pr n (d + 1) (f + j) k pc L st σ = (q_run pr n d f k1 0 (q_args 0 vs) [] σ').bind (q_af n (fun st2 σ2 => q_run pr n (d + 1) f k pc' L' st2 σ2) rest)) (hc : q_ex pr n d k1 0 (q_args 0 vs) [] σ' (.inr ex, σ'')) : q_ex pr n (d + 1) k pc L st σ (.inr ex, σ'') := by
  obtain ⟨f1, h1⟩ := hc
  refine ⟨f1 + j, (h _).trans ?_⟩
  rw [h1]
  rfl
end EX
