/-! More fuel, more depth, more known locals: the run answers the same. Ours, written by mono.py -/
def q_le {α : Type} (a b : Option α) : Prop := ∀ r, a = some r → b = some r
theorem q_le_n {α : Type} {b : Option α} : q_le none b := fun _ h => by cases h
theorem q_le_r {α : Type} {b : Option α} : q_le b b := fun _ h => h
theorem q_le_b {α β : Type} {a : Option α} {f g : α → Option β} (h : ∀ x, q_le (f x) (g x)) : q_le (a.bind f) (a.bind g) := fun r hr => by
  obtain ⟨x, h1, h2⟩ := Option.bind_eq_some_iff.mp hr
  exact Option.bind_eq_some_iff.mpr ⟨x, h1, h x r h2⟩
theorem q_le_bb {α β : Type} {a b : Option α} {f g : α → Option β} (h0 : q_le a b) (h : ∀ x, q_le (f x) (g x)) : q_le (a.bind f) (b.bind g) := fun r hr => by
  obtain ⟨x, h1, h2⟩ := Option.bind_eq_some_iff.mp hr
  exact Option.bind_eq_some_iff.mpr ⟨x, h0 x h1, h x r h2⟩
theorem q_le_c {α : Type} {b : Bool} {x y u v : Option α} (h1 : q_le x u) (h2 : q_le y v) : q_le (bif b then x else y) (bif b then u else v) := by
  cases b with
  | true => exact h1
  | false => exact h2
theorem q_le_i {α : Type} {c : Prop} {d : Decidable c} {x y u v : Option α} (h1 : q_le x u) (h2 : q_le y v) : q_le (@ite (Option α) c d x y) (@ite (Option α) c d u v) := by
  by_cases hc : c
  · rw [if_pos hc, if_pos hc]
    exact h1
  · rw [if_neg hc, if_neg hc]
    exact h2
theorem q_le_sw {g g' : Nat → Option Res} (h : ∀ t, q_le (g t) (g' t)) (x : Int32) (t : Nat) (l : List Nat) : ∀ v, q_le (q_sw g x v l t) (q_sw g' x v l t) := by
  induction l with
  | nil => intro v; exact h t
  | cons u r ih => intro v; exact q_le_i (h u) (ih (v + 1))
theorem q_le_af {n : Nat} {g g' : List PV → J → Option Res} (h : ∀ a b, q_le (g a b) (g' a b)) (rest : List PV) (z : Res) : q_le (q_af n g rest z) (q_af n g' rest z) := by
  match z with
  | (.inl none, σ) => exact h rest σ
  | (.inl (some v), σ) => exact q_le_c (h (v :: rest) σ) q_le_n
  | (.inr e, σ) => exact q_le_r
theorem q_le_m1 {α β : Type} {x : Option α} {a a' : Option β} {b b' : α → Option β} (h1 : q_le a a') (h2 : ∀ y, q_le (b y) (b' y)) : q_le (match x with
  | none => a
  | some y => b y) (match x with
  | none => a'
  | some y => b' y) := by
  cases x with
  | none => exact h1
  | some y => exact h2 y
theorem q_s1_mono {L M : PL} (h : ∀ a, q_le (L a) (M a)) (a : Nat) (v : PV) : ∀ b, q_le (q_s1 L a v b) (q_s1 M a v b) := by
  intro b
  refine q_le_c q_le_r (q_le_c ?_ (h b))
  intro r hr
  cases hL : L b with
  | none => rw [hL] at hr; cases hr
  | some w =>
    rw [hL] at hr
    rw [h b w hL]
    exact hr
theorem q_s2_mono {L M : PL} (h : ∀ a, q_le (L a) (M a)) (a : Nat) (v : PV) : ∀ b, q_le (q_s2 L a v b) (q_s2 M a v b) := by
  intro b
  refine q_le_c q_le_r (q_le_c q_le_r (q_le_c ?_ (h b)))
  intro r hr
  cases hL : L b with
  | none => rw [hL] at hr; cases hr
  | some w =>
    rw [hL] at hr
    rw [h b w hL]
    exact hr
section MONO
variable {n pc : Nat} {g g' : Nat → PL → List PV → J → Option Res} {cal cal' : Nat → List PV → J → Option Res} {L M : PL} {st : List PV} {σ : J} {ox : Int} {oa ob : Nat} {ol : List Nat}
theorem q_mono {ci : Nat} (hg : ∀ pc L M st σ, (∀ a, q_le (L a) (M a)) → q_le (g pc L st σ) (g' pc M st σ)) (hc : ∀ k vs σ, q_le (cal k vs σ) (cal' k vs σ)) (hL : ∀ a, q_le (L a) (M a)) : q_le (q_stp n g cal pc (ci, ox, oa, ob, ol) L st σ) (q_stp n g' cal' pc (ci, ox, oa, ob, ol) M st σ) := by
  by_cases hbig : 77 < ci ∨ ci = 5
  · rw [q_big hbig]
    exact q_le_n
  have hlt : ci < 78 := by omega
  match ci, hlt with
  | 0, _ => exact hg _ _ _ _ _ hL
  | 1, _ => exact hg _ _ _ _ _ hL
  | 2, _ => exact hg _ _ _ _ _ hL
  | 3, _ => exact hg _ _ _ _ _ hL
  | 4, _ => exact hg _ _ _ _ _ hL
  | 6, _ => exact q_le_bb (hL _) fun _ => q_le_b fun _ => hg _ _ _ _ _ hL
  | 7, _ => exact q_le_bb (hL _) fun _ => q_le_b fun _ => hg _ _ _ _ _ hL
  | 8, _ => exact q_le_bb (hL _) fun _ => q_le_b fun _ => hg _ _ _ _ _ hL
  | 9, _ => exact q_le_bb (hL _) fun _ => q_le_b fun _ => hg _ _ _ _ _ hL
  | 10, _ => exact q_le_bb (hL _) fun _ => q_le_b fun _ => hg _ _ _ _ _ hL
  | 11, _ => exact q_le_bb (hL _) fun _ => q_le_b fun _ => hg _ _ _ _ _ hL
  | 12, _ => exact q_le_b fun _ => hg _ _ _ _ _ (q_s1_mono hL _ _)
  | 13, _ => exact q_le_b fun _ => hg _ _ _ _ _ (q_s1_mono hL _ _)
  | 14, _ => exact q_le_b fun _ => hg _ _ _ _ _ (q_s2_mono hL _ _)
  | 15, _ => exact q_le_b fun _ => hg _ _ _ _ _ (q_s2_mono hL _ _)
  | 16, _ => exact q_le_b fun _ => hg _ _ _ _ _ (q_s1_mono hL _ _)
  | 17, _ => exact q_le_b fun _ => hg _ _ _ _ _ (q_s1_mono hL _ _)
  | 18, _ => exact q_le_bb (hL _) fun _ => q_le_b fun _ => hg _ _ _ _ _ (q_s1_mono hL _ _)
  | 19, _ => exact q_le_b fun _ => q_le_b fun _ => hg _ _ _ _ _ hL
  | 20, _ => exact q_le_b fun _ => q_le_b fun _ => hg _ _ _ _ _ hL
  | 21, _ => exact q_le_b fun _ => q_le_b fun _ => hg _ _ _ _ _ hL
  | 22, _ => exact q_le_b fun _ => q_le_b fun _ => q_le_i q_le_n (hg _ _ _ _ _ hL)
  | 23, _ => exact q_le_b fun _ => q_le_b fun _ => hg _ _ _ _ _ hL
  | 24, _ => exact q_le_b fun _ => q_le_b fun _ => hg _ _ _ _ _ hL
  | 25, _ => exact q_le_b fun _ => q_le_b fun _ => hg _ _ _ _ _ hL
  | 26, _ => exact q_le_b fun _ => q_le_b fun _ => hg _ _ _ _ _ hL
  | 27, _ => exact q_le_b fun _ => q_le_b fun _ => hg _ _ _ _ _ hL
  | 28, _ => exact q_le_b fun _ => q_le_b fun _ => hg _ _ _ _ _ hL
  | 29, _ => exact q_le_b fun _ => q_le_b fun _ => hg _ _ _ _ _ hL
  | 30, _ => exact q_le_b fun _ => q_le_b fun _ => hg _ _ _ _ _ hL
  | 31, _ => exact q_le_b fun _ => q_le_b fun _ => hg _ _ _ _ _ hL
  | 32, _ => exact q_le_b fun _ => q_le_b fun _ => hg _ _ _ _ _ hL
  | 33, _ => exact q_le_b fun _ => hg _ _ _ _ _ hL
  | 34, _ => exact q_le_b fun _ => hg _ _ _ _ _ hL
  | 35, _ => exact q_le_b fun _ => q_le_b fun _ => hg _ _ _ _ _ hL
  | 36, _ => exact q_le_b fun _ => hg _ _ _ _ _ hL
  | 37, _ => exact q_le_b fun _ => hg _ _ _ _ _ hL
  | 38, _ => exact q_le_b fun _ => q_le_b fun _ => hg _ _ _ _ _ hL
  | 39, _ => exact hg _ _ _ _ _ hL
  | 40, _ => exact q_le_b fun x => (by obtain ⟨x1, x2⟩ := x; cases x1 <;> exact hg _ _ _ _ _ hL)
  | 41, _ => exact q_le_b fun x => (by obtain ⟨x1, x2⟩ := x; cases x1 <;> exact hg _ _ _ _ _ hL)
  | 42, _ => exact hg _ _ _ _ _ hL
  | 43, _ => exact q_le_b fun _ => q_le_i (hg _ _ _ _ _ hL) (hg _ _ _ _ _ hL)
  | 44, _ => exact q_le_b fun _ => q_le_i (hg _ _ _ _ _ hL) (hg _ _ _ _ _ hL)
  | 45, _ => exact q_le_b fun _ => q_le_i (hg _ _ _ _ _ hL) (hg _ _ _ _ _ hL)
  | 46, _ => exact q_le_b fun _ => q_le_i (hg _ _ _ _ _ hL) (hg _ _ _ _ _ hL)
  | 47, _ => exact q_le_b fun _ => q_le_i (hg _ _ _ _ _ hL) (hg _ _ _ _ _ hL)
  | 48, _ => exact q_le_b fun _ => q_le_i (hg _ _ _ _ _ hL) (hg _ _ _ _ _ hL)
  | 49, _ => exact q_le_b fun _ => q_le_b fun _ => q_le_i (hg _ _ _ _ _ hL) (hg _ _ _ _ _ hL)
  | 50, _ => exact q_le_b fun _ => q_le_b fun _ => q_le_i (hg _ _ _ _ _ hL) (hg _ _ _ _ _ hL)
  | 51, _ => exact q_le_b fun _ => q_le_b fun _ => q_le_i (hg _ _ _ _ _ hL) (hg _ _ _ _ _ hL)
  | 52, _ => exact q_le_b fun _ => q_le_b fun _ => q_le_i (hg _ _ _ _ _ hL) (hg _ _ _ _ _ hL)
  | 53, _ => exact q_le_b fun _ => q_le_b fun _ => q_le_i (hg _ _ _ _ _ hL) (hg _ _ _ _ _ hL)
  | 54, _ => exact q_le_b fun _ => q_le_b fun _ => q_le_i (hg _ _ _ _ _ hL) (hg _ _ _ _ _ hL)
  | 55, _ => exact q_le_b fun _ => q_le_sw (fun _ => hg _ _ _ _ _ hL) _ _ _ _
  | 56, _ => exact q_le_b fun _ => q_le_b fun _ => q_le_c (q_le_b fun _ => hg _ _ _ _ _ hL) q_le_n
  | 57, _ => exact q_le_b fun _ => q_le_b fun _ => q_le_b fun _ => q_le_c (q_le_b fun _ => q_le_c (hg _ _ _ _ _ hL) (q_le_c (q_le_i (hg _ _ _ _ _ hL) q_le_n) q_le_n)) q_le_n
  | 58, _ => exact q_le_b fun _ => q_le_b fun _ => q_le_b fun _ => q_le_c (q_le_c (hg _ _ _ _ _ hL) q_le_n) q_le_n
  | 59, _ => exact q_le_b fun _ => q_le_b fun _ => q_le_b fun _ => q_le_c (q_le_c (hg _ _ _ _ _ hL) q_le_n) q_le_n
  | 60, _ => exact q_le_b fun _ => q_le_b fun _ => q_le_b fun _ => q_le_c (q_le_c (q_le_c (hg _ _ _ _ _ hL) q_le_n) q_le_n) q_le_n
  | 61, _ => exact q_le_b fun _ => q_le_b fun _ => q_le_b fun _ => q_le_c (q_le_c (hg _ _ _ _ _ hL) q_le_n) q_le_n
  | 62, _ => exact q_le_b fun _ => q_le_b fun _ => q_le_b fun _ => q_le_b fun _ => q_le_c (q_le_c (hg _ _ _ _ _ hL) q_le_n) q_le_n
  | 63, _ => exact q_le_b fun _ => q_le_b fun _ => q_le_b fun _ => q_le_b fun _ => q_le_c (q_le_c (hg _ _ _ _ _ hL) q_le_n) q_le_n
  | 64, _ => exact q_le_b fun _ => q_le_b fun _ => q_le_b fun _ => q_le_b fun _ => q_le_c (q_le_c (hg _ _ _ _ _ hL) q_le_n) q_le_n
  | 65, _ => exact q_le_b fun _ => q_le_b fun _ => q_le_b fun _ => q_le_b fun _ => q_le_c (q_le_c (q_le_i (hg _ _ _ _ _ hL) q_le_n) q_le_n) q_le_n
  | 66, _ => exact q_le_b fun _ => q_le_b fun _ => hg _ _ _ _ _ hL
  | 67, _ => exact q_le_b fun _ => q_le_b fun _ => q_le_b fun _ => q_le_c (q_le_bb (hc _ _ _) fun _ => q_le_af (fun _ _ => hg _ _ _ _ _ hL) _ _) q_le_n
  | 68, _ => exact q_le_b fun _ => q_le_c (q_le_bb (hc _ _ _) fun _ => q_le_af (fun _ _ => hg _ _ _ _ _ hL) _ _) q_le_n
  | 69, _ => exact q_le_b fun _ => q_le_b fun _ => q_le_b fun _ => q_le_b fun _ => q_le_b fun _ => q_le_b fun _ => q_le_b fun _ => q_le_c (q_le_c (hg _ _ _ _ _ hL) (q_le_c (hg _ _ _ _ _ hL) q_le_n)) q_le_n
  | 70, _ => exact q_le_b fun _ => q_le_b fun _ => q_le_c (hg _ _ _ _ _ hL) q_le_n
  | 71, _ => exact q_le_b fun _ => q_le_b fun _ => q_le_c (hg _ _ _ _ _ hL) q_le_n
  | 72, _ => exact q_le_r
  | 73, _ => exact q_le_r
  | 74, _ => exact q_le_r
  | 75, _ => exact q_le_r
  | 76, _ => exact q_le_r
  | 77, _ => exact q_le_r
  | 5, _ => exact absurd (Or.inr rfl) hbig
  | _ + 78, hl => omega
theorem q_run_mono {pr : Nat → Nat → Option Op} : ∀ (f f' d d' k pc : Nat) (L M : PL) (st : List PV) (σ : J), f ≤ f' → d ≤ d' → (∀ a, q_le (L a) (M a)) → q_le (q_run pr n d f k pc L st σ) (q_run pr n d' f' k pc M st σ) := by
  intro f
  induction f with
  | zero => intro f' d d' k pc L M st σ _ _ _; exact q_le_n
  | succ f ih =>
    intro f' d d' k pc L M st σ hf hd hL
    cases f' with
    | zero => omega
    | succ f' =>
      unfold q_run
      cases pr k pc with
      | none => exact q_le_r
      | some o =>
        obtain ⟨ci, ox, oa, ob, ol⟩ := o
        refine q_mono (fun pc L M st σ h => ih f' d d' k pc L M st σ (by omega) hd h) (fun k' vs σ' => ?_) hL
        cases d with
        | zero => exact q_le_n
        | succ d =>
          cases d' with
          | zero => omega
          | succ d' => exact ih f' d d' k' 0 _ _ _ _ (by omega) (by omega) (fun _ => q_le_r)
end MONO
/-- the run from here on answers r -/
def q_ex (pr : Nat → Nat → Option Op) (n d k pc : Nat) (L : PL) (st : List PV) (σ : J) (r : Res) : Prop := ∃ f, q_run pr n d f k pc L st σ = some r
theorem q_ex_go {pr : Nat → Nat → Option Op} {n d k pc pc' : Nat} {L L' : PL} {st st' : List PV} {σ σ' : J} {r : Res} (j : Nat) (h : ∀ f, q_run pr n d (f + j) k pc L st σ = q_run pr n d f k pc' L' st' σ') (e : q_ex pr n d k pc' L' st' σ' r) : q_ex pr n d k pc L st σ r := by
  obtain ⟨f, hf⟩ := e
  exact ⟨f + j, (h f).trans hf⟩
theorem q_ex_le {pr : Nat → Nat → Option Op} {n d d' k pc : Nat} {L M : PL} {st : List PV} {σ : J} {r : Res} (hd : d ≤ d') (hL : ∀ a, q_le (L a) (M a)) (e : q_ex pr n d k pc L st σ r) : q_ex pr n d' k pc M st σ r := by
  obtain ⟨f, hf⟩ := e
  exact ⟨f, q_run_mono f f d d' k pc L M st σ (Nat.le_refl _) hd hL r hf⟩
