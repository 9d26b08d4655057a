/-! The constructors that the law calls: the class's, for every number of sessions, and the reference's. Ours, written by ctors.py -/
def r_runT (mx : Nat × Nat) (G : Nat → PL → List PV → CL → Option CL) (k : Nat) : Nat → Nat → PL → List PV → CL → Option CL
  | 0, pc, L, st, σ => G pc L st σ
  | f + 1, pc, L, st, σ => match r_pr k pc with
    | none => none
    | some o => bif Nat.beq o.1 76 then none else r_stp mx (r_runT mx G k f) (fun _ _ _ => none) pc o L st σ
theorem r_W_le {mt : Nat → MRow} {p : Program} {l : Launch} {e : Env} {R : Room} {s : State} {m : MethodId} {args : Array Value} {below : List Frame} {meth : Method} {c : Code} {Q : State → Prop} {D : va_G} {cy : Nat → ClassId} {h0 b0 z0 k pc : Nat} {mx : Nat × Nat} {L M : PL} {st : List PV} {σ : CL} (h : ∀ a, q_le (L a) (M a)) (w : r_W mt p l e R s m args below meth c Q D cy h0 b0 z0 k mx pc L st σ) : r_W mt p l e R s m args below meth c Q D cy h0 b0 z0 k mx pc M st σ := by
  intro H locs ls cells slots hP hS hl hz
  refine w H locs ls cells slots hP hS ⟨hl.1, hl.2.1, fun q hq => ?_⟩ hz
  apply hl.2.2 q
  unfold q_ll at hq ⊢
  obtain ⟨a, ha, hqa⟩ := List.mem_filterMap.mp hq
  refine List.mem_filterMap.mpr ⟨a, ha, ?_⟩
  cases hLa : L a with
  | none => rw [hLa] at hqa; cases hqa
  | some v =>
    rw [hLa] at hqa
    rw [h a v hLa]
    exact hqa
section RTG
variable {p : Program} {l : Launch} {e : Env} {R : Room} {s : State} {m : MethodId} {args : Array Value} {below : List Frame} {meth : Method} {c : Code} {Q : State → Prop} {D : va_G} {cy : Nat → ClassId} {h0 b0 z0 k pc pc' pc1 pc2 : Nat} {mx : Nat × Nat} {L L' : PL} {st st' : List PV} {σ σ' : CL}
theorem r_runT_W {G : Nat → PL → List PV → CL → Option CL} {r : CL} (cx : r_Cx r_mt p s m meth c args k D cy h0 b0 z0 R mx) (hG : ∀ pc L st σ, G pc L st σ = some r → r_W r_mt p l e R s m args below meth c Q D cy h0 b0 z0 k mx pc L st σ) (h49 : 49 ≤ R.locals) :
    ∀ (f pc : Nat) (L : PL) (st : List PV) (σ : CL), r_runT mx G k f pc L st σ = some r → r_W r_mt p l e R s m args below meth c Q D cy h0 b0 z0 k mx pc L st σ := by
  intro f
  induction f with
  | zero => intro pc L st σ h; exact hG pc L st σ h
  | succ f ih =>
    intro pc L st σ h
    unfold r_runT at h
    cases ho : r_pr k pc with
    | none => rw [ho] at h; cases h
    | some o =>
      rw [ho] at h
      obtain ⟨ci, ox, oa, ob, ol⟩ := o
      replace h : (bif Nat.beq ci 76 then none else r_stp mx (r_runT mx G k f) (fun _ _ _ => none) pc (ci, ox, oa, ob, ol) L st σ) = some r := h
      cases h76 : Nat.beq ci 76 with
      | true => rw [h76] at h; cases h
      | false =>
        rw [h76, cond_false] at h
        exact r_all (cal := fun _ _ _ => none) (rm := fun k1 => { frames := 0, cells := (r_cost k1).1, slots := (r_cost k1).2, locals := 0 }) cx ih (fun k1 => ⟨rfl, rfl, by have := cx.2.2.2.2.2.2.2.2.2.2.1; show 0 + 1 ≤ _; omega, by show 49 + 0 ≤ _; omega⟩) (fun _ _ _ _ hz => by cases hz) (fun q => absurd q (q_beq_ne h76)) (r_pr_ok k pc _ ho) h
noncomputable def r_GG (P : Nat → PL → List PV → CL → Prop) : Nat → PL → List PV → CL → Option CL := fun pc L st σ => @ite _ (P pc L st σ) (Classical.propDecidable _) (some []) none
theorem r_GG_o {P : Nat → PL → List PV → CL → Prop} : ∀ pc L st σ, r_GG P pc L st σ = some [] → P pc L st σ := by
  intro pc L st σ h
  unfold r_GG at h
  by_cases hp : P pc L st σ
  · exact hp
  · rw [if_neg hp] at h; cases h
theorem r_T_go (cx : r_Cx r_mt p s m meth c args k D cy h0 b0 z0 R mx) (h49 : 49 ≤ R.locals) (j : Nat) (h : ∀ G, r_runT mx G k j pc L st σ = G pc' L' st' σ') (kk : r_W r_mt p l e R s m args below meth c Q D cy h0 b0 z0 k mx pc' L' st' σ') : r_W r_mt p l e R s m args below meth c Q D cy h0 b0 z0 k mx pc L st σ := by
  refine r_runT_W (G := r_GG (r_W r_mt p l e R s m args below meth c Q D cy h0 b0 z0 k mx)) (r := []) cx r_GG_o h49 j pc L st σ ?_
  rw [h]
  exact if_pos kk
theorem r_T_if (cx : r_Cx r_mt p s m meth c args k D cy h0 b0 z0 R mx) (h49 : 49 ≤ R.locals) (j : Nat) {cc : Prop} {dc : Decidable cc} (h : ∀ G, r_runT mx G k j pc L st σ = @ite _ cc dc (G pc1 L' st' σ') (G pc2 L' st' σ')) (h1 : cc → r_W r_mt p l e R s m args below meth c Q D cy h0 b0 z0 k mx pc1 L' st' σ') (h2 : ¬ cc → r_W r_mt p l e R s m args below meth c Q D cy h0 b0 z0 k mx pc2 L' st' σ') : r_W r_mt p l e R s m args below meth c Q D cy h0 b0 z0 k mx pc L st σ := by
  refine r_runT_W (G := r_GG (r_W r_mt p l e R s m args below meth c Q D cy h0 b0 z0 k mx)) (r := []) cx r_GG_o h49 j pc L st σ ?_
  rw [h]
  by_cases hc : cc
  · rw [if_pos hc]; exact if_pos (h1 hc)
  · rw [if_neg hc]; exact if_pos (h2 hc)
end RTG
/-- how many sessions -/
def r_cl (x : Int32) : Int32 := if 1 < (if x < 4 then x else 4) then (if x < 4 then x else 4) else 1
theorem r_cl_n (x : Int32) : ∃ n : Nat, 1 ≤ n ∧ n ≤ 4 ∧ r_cl x = Int32.ofNat n := by
  have key : ∀ y : Int32, 1 ≤ y.toInt → y.toInt ≤ 4 → ∃ n : Nat, 1 ≤ n ∧ n ≤ 4 ∧ y = Int32.ofNat n := fun y h1 h2 => ⟨y.toInt.toNat, by omega, by omega, by
    apply Int32.toInt_inj.mp
    rw [Int32.toInt_ofNat_of_lt (by omega)]
    omega⟩
  unfold r_cl
  by_cases h4 : x < 4
  · rw [if_pos h4]
    have e4 : x.toInt < 4 := Int32.lt_iff_toInt_lt.mp h4
    by_cases h1 : 1 < x
    · rw [if_pos h1]
      have e1 : 1 < x.toInt := Int32.lt_iff_toInt_lt.mp h1
      exact key x (by omega) (by omega)
    · rw [if_neg h1]
      exact ⟨1, by omega, by omega, rfl⟩
  · rw [if_neg h4]
    exact ⟨4, by omega, by omega, rfl⟩
theorem r_cl_m (x : Int32) : (if 1 ≤ x then (if x ≤ 4 then x else 4) else 1) = r_cl x := by
  unfold r_cl
  apply Int32.toInt_inj.mp
  have l1 : (1 ≤ x) ↔ 1 ≤ x.toInt := Int32.le_iff_toInt_le
  have l2 : (x ≤ 4) ↔ x.toInt ≤ 4 := Int32.le_iff_toInt_le
  have l3 : (x < 4) ↔ x.toInt < 4 := Int32.lt_iff_toInt_lt
  have l4 : (1 < x) ↔ 1 < x.toInt := Int32.lt_iff_toInt_lt
  by_cases h1 : 1 ≤ x
  · rw [if_pos h1]
    by_cases h2 : x ≤ 4
    · rw [if_pos h2]
      by_cases h3 : x < 4
      · rw [if_pos h3]
        by_cases h4 : 1 < x
        · rw [if_pos h4]
        · rw [if_neg h4]
          have := l1.mp h1
          have : ¬ 1 < x.toInt := fun q => h4 (l4.mpr q)
          show x.toInt = 1
          omega
      · rw [if_neg h3]
        have := l2.mp h2
        have : ¬ x.toInt < 4 := fun q => h3 (l3.mpr q)
        show x.toInt = 4
        omega
    · rw [if_neg h2]
      have : ¬ x.toInt ≤ 4 := fun q => h2 (l2.mpr q)
      have h3 : ¬ x < 4 := fun q => by have := l3.mp q; omega
      rw [if_neg h3]
      rfl
  · rw [if_neg h1]
    have : ¬ 1 ≤ x.toInt := fun q => h1 (l1.mpr q)
    rw [if_pos (l3.mpr (by omega)), if_neg (fun q => by have := l4.mp q; omega)]
def r_j0 : CL := [.inl (0, r_dv 0)]
def r_jc (n : Nat) : Nat × Nat := (21 * n + 126, 86 * n + 580)
def r_jL (n : Nat) : PL := q_L [(0, .inr (.inr (some (0, 0)))), (2, .inl (Int32.ofNat n))]
def r_jrun (n : Nat) : Option CL := r_run 6 6000 8 (r_j0.length + (r_jc n).1, r_szs r_j0 + (r_jc n).2) 14 (r_jL n) [] r_j0
/-- the class's cells, for n sessions -/
def r_cJ (n : Nat) : CL := (r_jrun n).getD []
theorem r_jrun_ok : ∀ n, 1 ≤ n → n ≤ 4 → r_jrun n = some (r_cJ n) := by
  have h : ∀ n ∈ [1, 2, 3, 4], (r_jrun n).isSome = true := by decide +kernel
  intro n h1 h4
  have h2 := h n (by
    match n, h1, h4 with
    | 1, _, _ => decide
    | 2, _, _ => decide
    | 3, _, _ => decide
    | 4, _, _ => decide)
  obtain ⟨c, hc⟩ := Option.isSome_iff_exists.mp h2
  unfold r_cJ
  rw [hc]
  rfl
theorem r_metJ {l : Launch} {D : va_G} {cy : Nat → ClassId} {h0 n : Nat} {x : Int32} (h1 : 1 ≤ n) (h4 : n ≤ 4) (hx : r_cl x = Int32.ofNat n) : r_CT l r_mt (r_rm 6 (r_jc n)) D cy h0 (r_jc n).1 (r_jc n).2 8 [.inr (.inr (some (0, 0))), .inl x] r_j0 (r_cJ n) := by
  refine r_metW r_mt_pl (show 2 ≤ 4 by decide) ?_
  intro p e s m args below meth c cx
  refine r_T_go cx (by show 49 ≤ 49 * 6 + 60; decide) 8 (pc' := 14) (L' := q_s1 (q_args 0 [.inr (.inr (some (0, 0))), .inl x]) 2 (.inl (r_cl x))) (st' := []) (σ' := r_j0) (fun _ => rfl) ?_
  rw [hx]
  refine r_W_le (L := r_jL n) (q_L_le ⟨rfl, rfl, trivial⟩) ?_
  exact r_frame 6 (fun d' h => by
    obtain rfl : d' = 5 := by omega
    exact r_met r_mt_pl 5) cx (Nat.le_refl _) (Nat.le_refl _) 6000 14 _ _ _ (r_jrun_ok n h1 h4)
def r_m0 : CL := [.inl (9, r_dv 9)]
def r_m5 : CL := [.inl (9, [.inl 0, .inl 0, .inl 0, .inl 0, .inr (.inr (some (0, 1))), .inr (.inr (some (0, 2))), .inr (.inr (some (0, 3))), .inr (.inr (some (0, 4))), .inr (.inr (some (0, 5))), .inr (.inr none), .inr (.inr none), .inr (.inr none), .inr (.inr none), .inl 0, .inr (.inr none), .inr (.inr none), .inr (.inr none), .inr (.inr none), .inr (.inr none), .inr (.inr none), .inr (.inr none), .inr (.inr none), .inl 0, .inr (.inr none), .inr (.inr none), .inr (.inr none), .inr (.inr none), .inr (.inr none), .inr (.inr none), .inr (.inr none), .inl 0, .inr (.inr none), .inr (.inr none), .inr (.inr none), .inr (.inr none), .inr (.inr none), .inr (.inr none)]), .inr (0, List.replicate 20 (.inl 0)), .inr (0, List.replicate 20 (.inl 0)), .inr (0, List.replicate 20 (.inl 0)), .inr (0, List.replicate 20 (.inl 0)), .inr (0, List.replicate 20 (.inl 0))]
def r_m10 : CL := [.inl (9, [.inl 0, .inl 0, .inl 0, .inl 0, .inr (.inr (some (0, 1))), .inr (.inr (some (0, 2))), .inr (.inr (some (0, 3))), .inr (.inr (some (0, 4))), .inr (.inr (some (0, 5))), .inr (.inr (some (0, 6))), .inr (.inr (some (0, 7))), .inr (.inr (some (0, 8))), .inr (.inr (some (0, 9))), .inl 0, .inr (.inr (some (0, 10))), .inr (.inr none), .inr (.inr none), .inr (.inr none), .inr (.inr none), .inr (.inr none), .inr (.inr none), .inr (.inr none), .inl 0, .inr (.inr none), .inr (.inr none), .inr (.inr none), .inr (.inr none), .inr (.inr none), .inr (.inr none), .inr (.inr none), .inl 0, .inr (.inr none), .inr (.inr none), .inr (.inr none), .inr (.inr none), .inr (.inr none), .inr (.inr none)]), .inr (0, List.replicate 20 (.inl 0)), .inr (0, List.replicate 20 (.inl 0)), .inr (0, List.replicate 20 (.inl 0)), .inr (0, List.replicate 20 (.inl 0)), .inr (0, List.replicate 20 (.inl 0)), .inr (0, List.replicate 20 (.inl 0)), .inr (0, List.replicate 20 (.inl 0)), .inr (0, List.replicate 80 (.inl 0)), .inr (1, List.replicate 80 (.inr (.inl 0))), .inr (0, List.replicate 4 (.inl 0))]
def r_m15 : CL := [.inl (9, [.inl 0, .inl 0, .inl 0, .inl 0, .inr (.inr (some (0, 1))), .inr (.inr (some (0, 2))), .inr (.inr (some (0, 3))), .inr (.inr (some (0, 4))), .inr (.inr (some (0, 5))), .inr (.inr (some (0, 6))), .inr (.inr (some (0, 7))), .inr (.inr (some (0, 8))), .inr (.inr (some (0, 9))), .inl 0, .inr (.inr (some (0, 10))), .inr (.inr (some (0, 11))), .inr (.inr (some (0, 12))), .inr (.inr (some (0, 13))), .inr (.inr (some (0, 14))), .inr (.inr (some (0, 15))), .inr (.inr none), .inr (.inr none), .inl 0, .inr (.inr none), .inr (.inr none), .inr (.inr none), .inr (.inr none), .inr (.inr none), .inr (.inr none), .inr (.inr none), .inl 0, .inr (.inr none), .inr (.inr none), .inr (.inr none), .inr (.inr none), .inr (.inr none), .inr (.inr none)]), .inr (0, List.replicate 20 (.inl 0)), .inr (0, List.replicate 20 (.inl 0)), .inr (0, List.replicate 20 (.inl 0)), .inr (0, List.replicate 20 (.inl 0)), .inr (0, List.replicate 20 (.inl 0)), .inr (0, List.replicate 20 (.inl 0)), .inr (0, List.replicate 20 (.inl 0)), .inr (0, List.replicate 80 (.inl 0)), .inr (1, List.replicate 80 (.inr (.inl 0))), .inr (0, List.replicate 4 (.inl 0)), .inr (0, List.replicate 4 (.inl 0)), .inr (0, List.replicate 16 (.inl 0)), .inr (1, List.replicate 16 (.inr (.inl 0))), .inr (0, List.replicate 18 (.inl 0)), .inr (0, List.replicate 72 (.inl 0))]
def r_m20 : CL := [.inl (9, [.inl 0, .inl 0, .inl 0, .inl 0, .inr (.inr (some (0, 1))), .inr (.inr (some (0, 2))), .inr (.inr (some (0, 3))), .inr (.inr (some (0, 4))), .inr (.inr (some (0, 5))), .inr (.inr (some (0, 6))), .inr (.inr (some (0, 7))), .inr (.inr (some (0, 8))), .inr (.inr (some (0, 9))), .inl 0, .inr (.inr (some (0, 10))), .inr (.inr (some (0, 11))), .inr (.inr (some (0, 12))), .inr (.inr (some (0, 13))), .inr (.inr (some (0, 14))), .inr (.inr (some (0, 15))), .inr (.inr (some (0, 16))), .inr (.inr (some (0, 17))), .inl 0, .inr (.inr (some (0, 18))), .inr (.inr (some (0, 19))), .inr (.inr (some (0, 20))), .inr (.inr none), .inr (.inr none), .inr (.inr none), .inr (.inr none), .inl 0, .inr (.inr none), .inr (.inr none), .inr (.inr none), .inr (.inr none), .inr (.inr none), .inr (.inr none)]), .inr (0, List.replicate 20 (.inl 0)), .inr (0, List.replicate 20 (.inl 0)), .inr (0, List.replicate 20 (.inl 0)), .inr (0, List.replicate 20 (.inl 0)), .inr (0, List.replicate 20 (.inl 0)), .inr (0, List.replicate 20 (.inl 0)), .inr (0, List.replicate 20 (.inl 0)), .inr (0, List.replicate 80 (.inl 0)), .inr (1, List.replicate 80 (.inr (.inl 0))), .inr (0, List.replicate 4 (.inl 0)), .inr (0, List.replicate 4 (.inl 0)), .inr (0, List.replicate 16 (.inl 0)), .inr (1, List.replicate 16 (.inr (.inl 0))), .inr (0, List.replicate 18 (.inl 0)), .inr (0, List.replicate 72 (.inl 0)), .inr (1, List.replicate 72 (.inr (.inl 0))), .inr (1, List.replicate 72 (.inr (.inl 0))), .inr (0, List.replicate 4 (.inl 0)), .inr (0, List.replicate 4 (.inl 0)), .inr (0, List.replicate 4 (.inl 0))]
def r_m25 : CL := [.inl (9, [.inl 0, .inl 0, .inl 0, .inl 0, .inr (.inr (some (0, 1))), .inr (.inr (some (0, 2))), .inr (.inr (some (0, 3))), .inr (.inr (some (0, 4))), .inr (.inr (some (0, 5))), .inr (.inr (some (0, 6))), .inr (.inr (some (0, 7))), .inr (.inr (some (0, 8))), .inr (.inr (some (0, 9))), .inl 0, .inr (.inr (some (0, 10))), .inr (.inr (some (0, 11))), .inr (.inr (some (0, 12))), .inr (.inr (some (0, 13))), .inr (.inr (some (0, 14))), .inr (.inr (some (0, 15))), .inr (.inr (some (0, 16))), .inr (.inr (some (0, 17))), .inl 0, .inr (.inr (some (0, 18))), .inr (.inr (some (0, 19))), .inr (.inr (some (0, 20))), .inr (.inr (some (0, 21))), .inr (.inr (some (0, 22))), .inr (.inr (some (0, 23))), .inr (.inr (some (0, 24))), .inl 0, .inr (.inr (some (0, 25))), .inr (.inr none), .inr (.inr none), .inr (.inr none), .inr (.inr none), .inr (.inr none)]), .inr (0, List.replicate 20 (.inl 0)), .inr (0, List.replicate 20 (.inl 0)), .inr (0, List.replicate 20 (.inl 0)), .inr (0, List.replicate 20 (.inl 0)), .inr (0, List.replicate 20 (.inl 0)), .inr (0, List.replicate 20 (.inl 0)), .inr (0, List.replicate 20 (.inl 0)), .inr (0, List.replicate 80 (.inl 0)), .inr (1, List.replicate 80 (.inr (.inl 0))), .inr (0, List.replicate 4 (.inl 0)), .inr (0, List.replicate 4 (.inl 0)), .inr (0, List.replicate 16 (.inl 0)), .inr (1, List.replicate 16 (.inr (.inl 0))), .inr (0, List.replicate 18 (.inl 0)), .inr (0, List.replicate 72 (.inl 0)), .inr (1, List.replicate 72 (.inr (.inl 0))), .inr (1, List.replicate 72 (.inr (.inl 0))), .inr (0, List.replicate 4 (.inl 0)), .inr (0, List.replicate 4 (.inl 0)), .inr (0, List.replicate 4 (.inl 0)), .inr (0, List.replicate 4 (.inl 0)), .inr (0, List.replicate 12 (.inl 0)), .inr (0, List.replicate 16 (.inl 0)), .inr (1, List.replicate 16 (.inr (.inl 0))), .inr (0, List.replicate 6 (.inl 0))]
def r_m30 : CL := [.inl (9, [.inl 0, .inl 0, .inl 0, .inl 0, .inr (.inr (some (0, 1))), .inr (.inr (some (0, 2))), .inr (.inr (some (0, 3))), .inr (.inr (some (0, 4))), .inr (.inr (some (0, 5))), .inr (.inr (some (0, 6))), .inr (.inr (some (0, 7))), .inr (.inr (some (0, 8))), .inr (.inr (some (0, 9))), .inl 0, .inr (.inr (some (0, 10))), .inr (.inr (some (0, 11))), .inr (.inr (some (0, 12))), .inr (.inr (some (0, 13))), .inr (.inr (some (0, 14))), .inr (.inr (some (0, 15))), .inr (.inr (some (0, 16))), .inr (.inr (some (0, 17))), .inl 0, .inr (.inr (some (0, 18))), .inr (.inr (some (0, 19))), .inr (.inr (some (0, 20))), .inr (.inr (some (0, 21))), .inr (.inr (some (0, 22))), .inr (.inr (some (0, 23))), .inr (.inr (some (0, 24))), .inl 0, .inr (.inr (some (0, 25))), .inr (.inr (some (0, 26))), .inr (.inr (some (0, 27))), .inr (.inr (some (0, 28))), .inr (.inr (some (0, 29))), .inr (.inr (some (0, 30)))]), .inr (0, List.replicate 20 (.inl 0)), .inr (0, List.replicate 20 (.inl 0)), .inr (0, List.replicate 20 (.inl 0)), .inr (0, List.replicate 20 (.inl 0)), .inr (0, List.replicate 20 (.inl 0)), .inr (0, List.replicate 20 (.inl 0)), .inr (0, List.replicate 20 (.inl 0)), .inr (0, List.replicate 80 (.inl 0)), .inr (1, List.replicate 80 (.inr (.inl 0))), .inr (0, List.replicate 4 (.inl 0)), .inr (0, List.replicate 4 (.inl 0)), .inr (0, List.replicate 16 (.inl 0)), .inr (1, List.replicate 16 (.inr (.inl 0))), .inr (0, List.replicate 18 (.inl 0)), .inr (0, List.replicate 72 (.inl 0)), .inr (1, List.replicate 72 (.inr (.inl 0))), .inr (1, List.replicate 72 (.inr (.inl 0))), .inr (0, List.replicate 4 (.inl 0)), .inr (0, List.replicate 4 (.inl 0)), .inr (0, List.replicate 4 (.inl 0)), .inr (0, List.replicate 4 (.inl 0)), .inr (0, List.replicate 12 (.inl 0)), .inr (0, List.replicate 16 (.inl 0)), .inr (1, List.replicate 16 (.inr (.inl 0))), .inr (0, List.replicate 6 (.inl 0)), .inr (0, List.replicate 30 (.inl 0)), .inr (2, List.replicate 6 (.inl 0)), .inr (0, List.replicate 16 (.inl 0)), .inr (1, List.replicate 16 (.inr (.inl 0))), .inr (0, List.replicate 3 (.inl 0))]
def r_mS (v : PV) : CL := [.inl (9, ([.inl 0, .inl 0, .inl 0, .inl 0, .inr (.inr (some (0, 1))), .inr (.inr (some (0, 2))), .inr (.inr (some (0, 3))), .inr (.inr (some (0, 4))), .inr (.inr (some (0, 5))), .inr (.inr (some (0, 6))), .inr (.inr (some (0, 7))), .inr (.inr (some (0, 8))), .inr (.inr (some (0, 9))), .inl 0, .inr (.inr (some (0, 10))), .inr (.inr (some (0, 11))), .inr (.inr (some (0, 12))), .inr (.inr (some (0, 13))), .inr (.inr (some (0, 14))), .inr (.inr (some (0, 15))), .inr (.inr (some (0, 16))), .inr (.inr (some (0, 17))), .inl 0, .inr (.inr (some (0, 18))), .inr (.inr (some (0, 19))), .inr (.inr (some (0, 20))), .inr (.inr (some (0, 21))), .inr (.inr (some (0, 22))), .inr (.inr (some (0, 23))), .inr (.inr (some (0, 24))), .inl 0, .inr (.inr (some (0, 25))), .inr (.inr (some (0, 26))), .inr (.inr (some (0, 27))), .inr (.inr (some (0, 28))), .inr (.inr (some (0, 29))), .inr (.inr (some (0, 30)))].set 13 v)), .inr (0, List.replicate 20 (.inl 0)), .inr (0, List.replicate 20 (.inl 0)), .inr (0, List.replicate 20 (.inl 0)), .inr (0, List.replicate 20 (.inl 0)), .inr (0, List.replicate 20 (.inl 0)), .inr (0, List.replicate 20 (.inl 0)), .inr (0, List.replicate 20 (.inl 0)), .inr (0, List.replicate 80 (.inl 0)), .inr (1, List.replicate 80 (.inr (.inl 0))), .inr (0, List.replicate 4 (.inl 0)), .inr (0, List.replicate 4 (.inl 0)), .inr (0, List.replicate 16 (.inl 0)), .inr (1, List.replicate 16 (.inr (.inl 0))), .inr (0, List.replicate 18 (.inl 0)), .inr (0, List.replicate 72 (.inl 0)), .inr (1, List.replicate 72 (.inr (.inl 0))), .inr (1, List.replicate 72 (.inr (.inl 0))), .inr (0, List.replicate 4 (.inl 0)), .inr (0, List.replicate 4 (.inl 0)), .inr (0, List.replicate 4 (.inl 0)), .inr (0, List.replicate 4 (.inl 0)), .inr (0, List.replicate 12 (.inl 0)), .inr (0, List.replicate 16 (.inl 0)), .inr (1, List.replicate 16 (.inr (.inl 0))), .inr (0, List.replicate 6 (.inl 0)), .inr (0, List.replicate 30 (.inl 0)), .inr (2, List.replicate 6 (.inl 0)), .inr (0, List.replicate 16 (.inl 0)), .inr (1, List.replicate 16 (.inr (.inl 0))), .inr (0, List.replicate 3 (.inl 0))]
def r_mc : Nat × Nat := (30, 711)
def r_mL : PL := q_L [(0, .inr (.inr (some (0, 0))))]
def r_mrun (n : Nat) : Option CL := r_run 2 3000 9 (r_m0.length + r_mc.1, r_szs r_m0 + r_mc.2) 260 r_mL [] (r_mS (.inl (Int32.ofNat n)))
/-- the reference's cells, for n sessions -/
def r_cM (n : Nat) : CL := (r_mrun n).getD []
theorem r_mrun_ok : ∀ n, 1 ≤ n → n ≤ 4 → r_mrun n = some (r_cM n) := by
  have h : ∀ n ∈ [1, 2, 3, 4], (r_mrun n).isSome = true := by decide +kernel
  intro n h1 h4
  have h2 := h n (by
    match n, h1, h4 with
    | 1, _, _ => decide
    | 2, _, _ => decide
    | 3, _, _ => decide
    | 4, _, _ => decide)
  obtain ⟨c, hc⟩ := Option.isSome_iff_exists.mp h2
  unfold r_cM
  rw [hc]
  rfl
set_option maxRecDepth 100000 in
set_option maxHeartbeats 4000000 in
theorem r_ms5 {p : Program} {l : Launch} {e : Env} {s : State} {m : MethodId} {args : Array Value} {below : List Frame} {meth : Method} {c : Code} {Q : State → Prop} {D : va_G} {cy : Nat → ClassId} {h0 : Nat} {x : Int32} (cx : r_Cx r_mt p s m meth c args 9 D cy h0 r_m0.length (r_szs r_m0) (r_rm 2 r_mc) (r_m0.length + r_mc.1, r_szs r_m0 + r_mc.2)) (k : r_W r_mt p l e (r_rm 2 r_mc) s m args below meth c Q D cy h0 r_m0.length (r_szs r_m0) 9 (r_m0.length + r_mc.1, r_szs r_m0 + r_mc.2) 44 (q_args 0 [.inr (.inr (some (0, 0))), .inl x]) [] r_m5) : r_W r_mt p l e (r_rm 2 r_mc) s m args below meth c Q D cy h0 r_m0.length (r_szs r_m0) 9 (r_m0.length + r_mc.1, r_szs r_m0 + r_mc.2) 0 (q_args 0 [.inr (.inr (some (0, 0))), .inl x]) [] r_m0 := r_T_go cx (by show 49 ≤ 49 * 2 + 60; decide) 22 (fun _ => rfl) k
set_option maxRecDepth 100000 in
set_option maxHeartbeats 4000000 in
theorem r_ms10 {p : Program} {l : Launch} {e : Env} {s : State} {m : MethodId} {args : Array Value} {below : List Frame} {meth : Method} {c : Code} {Q : State → Prop} {D : va_G} {cy : Nat → ClassId} {h0 : Nat} {x : Int32} (cx : r_Cx r_mt p s m meth c args 9 D cy h0 r_m0.length (r_szs r_m0) (r_rm 2 r_mc) (r_m0.length + r_mc.1, r_szs r_m0 + r_mc.2)) (k : r_W r_mt p l e (r_rm 2 r_mc) s m args below meth c Q D cy h0 r_m0.length (r_szs r_m0) 9 (r_m0.length + r_mc.1, r_szs r_m0 + r_mc.2) 83 (q_args 0 [.inr (.inr (some (0, 0))), .inl x]) [] r_m10) : r_W r_mt p l e (r_rm 2 r_mc) s m args below meth c Q D cy h0 r_m0.length (r_szs r_m0) 9 (r_m0.length + r_mc.1, r_szs r_m0 + r_mc.2) 44 (q_args 0 [.inr (.inr (some (0, 0))), .inl x]) [] r_m5 := r_T_go cx (by show 49 ≤ 49 * 2 + 60; decide) 20 (fun _ => rfl) k
set_option maxRecDepth 100000 in
set_option maxHeartbeats 4000000 in
theorem r_ms15 {p : Program} {l : Launch} {e : Env} {s : State} {m : MethodId} {args : Array Value} {below : List Frame} {meth : Method} {c : Code} {Q : State → Prop} {D : va_G} {cy : Nat → ClassId} {h0 : Nat} {x : Int32} (cx : r_Cx r_mt p s m meth c args 9 D cy h0 r_m0.length (r_szs r_m0) (r_rm 2 r_mc) (r_m0.length + r_mc.1, r_szs r_m0 + r_mc.2)) (k : r_W r_mt p l e (r_rm 2 r_mc) s m args below meth c Q D cy h0 r_m0.length (r_szs r_m0) 9 (r_m0.length + r_mc.1, r_szs r_m0 + r_mc.2) 122 (q_args 0 [.inr (.inr (some (0, 0))), .inl x]) [] r_m15) : r_W r_mt p l e (r_rm 2 r_mc) s m args below meth c Q D cy h0 r_m0.length (r_szs r_m0) 9 (r_m0.length + r_mc.1, r_szs r_m0 + r_mc.2) 83 (q_args 0 [.inr (.inr (some (0, 0))), .inl x]) [] r_m10 := r_T_go cx (by show 49 ≤ 49 * 2 + 60; decide) 20 (fun _ => rfl) k
set_option maxRecDepth 100000 in
set_option maxHeartbeats 4000000 in
theorem r_ms20 {p : Program} {l : Launch} {e : Env} {s : State} {m : MethodId} {args : Array Value} {below : List Frame} {meth : Method} {c : Code} {Q : State → Prop} {D : va_G} {cy : Nat → ClassId} {h0 : Nat} {x : Int32} (cx : r_Cx r_mt p s m meth c args 9 D cy h0 r_m0.length (r_szs r_m0) (r_rm 2 r_mc) (r_m0.length + r_mc.1, r_szs r_m0 + r_mc.2)) (k : r_W r_mt p l e (r_rm 2 r_mc) s m args below meth c Q D cy h0 r_m0.length (r_szs r_m0) 9 (r_m0.length + r_mc.1, r_szs r_m0 + r_mc.2) 159 (q_args 0 [.inr (.inr (some (0, 0))), .inl x]) [] r_m20) : r_W r_mt p l e (r_rm 2 r_mc) s m args below meth c Q D cy h0 r_m0.length (r_szs r_m0) 9 (r_m0.length + r_mc.1, r_szs r_m0 + r_mc.2) 122 (q_args 0 [.inr (.inr (some (0, 0))), .inl x]) [] r_m15 := r_T_go cx (by show 49 ≤ 49 * 2 + 60; decide) 20 (fun _ => rfl) k
set_option maxRecDepth 100000 in
set_option maxHeartbeats 4000000 in
theorem r_ms25 {p : Program} {l : Launch} {e : Env} {s : State} {m : MethodId} {args : Array Value} {below : List Frame} {meth : Method} {c : Code} {Q : State → Prop} {D : va_G} {cy : Nat → ClassId} {h0 : Nat} {x : Int32} (cx : r_Cx r_mt p s m meth c args 9 D cy h0 r_m0.length (r_szs r_m0) (r_rm 2 r_mc) (r_m0.length + r_mc.1, r_szs r_m0 + r_mc.2)) (k : r_W r_mt p l e (r_rm 2 r_mc) s m args below meth c Q D cy h0 r_m0.length (r_szs r_m0) 9 (r_m0.length + r_mc.1, r_szs r_m0 + r_mc.2) 198 (q_args 0 [.inr (.inr (some (0, 0))), .inl x]) [] r_m25) : r_W r_mt p l e (r_rm 2 r_mc) s m args below meth c Q D cy h0 r_m0.length (r_szs r_m0) 9 (r_m0.length + r_mc.1, r_szs r_m0 + r_mc.2) 159 (q_args 0 [.inr (.inr (some (0, 0))), .inl x]) [] r_m20 := r_T_go cx (by show 49 ≤ 49 * 2 + 60; decide) 20 (fun _ => rfl) k
set_option maxRecDepth 100000 in
set_option maxHeartbeats 4000000 in
theorem r_ms30 {p : Program} {l : Launch} {e : Env} {s : State} {m : MethodId} {args : Array Value} {below : List Frame} {meth : Method} {c : Code} {Q : State → Prop} {D : va_G} {cy : Nat → ClassId} {h0 : Nat} {x : Int32} (cx : r_Cx r_mt p s m meth c args 9 D cy h0 r_m0.length (r_szs r_m0) (r_rm 2 r_mc) (r_m0.length + r_mc.1, r_szs r_m0 + r_mc.2)) (k : r_W r_mt p l e (r_rm 2 r_mc) s m args below meth c Q D cy h0 r_m0.length (r_szs r_m0) 9 (r_m0.length + r_mc.1, r_szs r_m0 + r_mc.2) 237 (q_args 0 [.inr (.inr (some (0, 0))), .inl x]) [] r_m30) : r_W r_mt p l e (r_rm 2 r_mc) s m args below meth c Q D cy h0 r_m0.length (r_szs r_m0) 9 (r_m0.length + r_mc.1, r_szs r_m0 + r_mc.2) 198 (q_args 0 [.inr (.inr (some (0, 0))), .inl x]) [] r_m25 := r_T_go cx (by show 49 ≤ 49 * 2 + 60; decide) 20 (fun _ => rfl) k
theorem r_metM {l : Launch} {D : va_G} {cy : Nat → ClassId} {h0 n : Nat} {x : Int32} (h1 : 1 ≤ n) (h4 : n ≤ 4) (hx : r_cl x = Int32.ofNat n) : r_CT l r_mt (r_rm 2 r_mc) D cy h0 r_mc.1 r_mc.2 9 [.inr (.inr (some (0, 0))), .inl x] r_m0 (r_cM n) := by
  refine r_metW r_mt_pl (show 2 ≤ 3 by decide) ?_
  intro p e s m args below meth c cx
  have hlo : 49 ≤ (r_rm 2 r_mc).locals := by show 49 ≤ 49 * 2 + 60; decide
  have fin : ∀ L, q_Ls L [(0, .inr (.inr (some (0, 0))))] → ∀ v : Int32, v = r_cl x → r_W r_mt p l e (r_rm 2 r_mc) s m args below meth c (MQ below (r_Q D cy h0 (r_cM n)) args s r_mc.1 r_mc.2 (r_A h0)) D cy h0 r_m0.length (r_szs r_m0) 9 (r_m0.length + r_mc.1, r_szs r_m0 + r_mc.2) 260 L [] (r_mS (.inl v)) := by
    intro L hL v hv
    rw [hv, hx]
    refine r_W_le (L := r_mL) (q_L_le hL) ?_
    exact r_frame 2 (fun d' h => by
      obtain rfl : d' = 1 := by omega
      exact r_met r_mt_pl 1) cx (Nat.le_refl _) (Nat.le_refl _) 3000 260 _ _ _ (r_mrun_ok n h1 h4)
  refine r_ms5 cx (r_ms10 cx (r_ms15 cx (r_ms20 cx (r_ms25 cx (r_ms30 cx ?_)))))
  have hm := r_cl_m x
  refine r_T_if cx hlo 4 (cc := 1 ≤ x) (pc1 := 247) (pc2 := 243) (L' := (q_args 0 [.inr (.inr (some (0, 0))), .inl x])) (st' := [.inr (.inr (some (0, 0)))]) (σ' := r_m30) (fun _ => rfl) (fun hc => ?_) (fun hc => ?_)
  · rw [if_pos hc] at hm
    refine r_T_if cx hlo 3 (cc := x ≤ 4) (pc1 := 256) (pc2 := 252) (L' := (q_args 0 [.inr (.inr (some (0, 0))), .inl x])) (st' := [.inr (.inr (some (0, 0)))]) (σ' := r_m30) (fun _ => rfl) (fun hd => ?_) (fun hd => ?_)
    · rw [if_pos hd] at hm
      exact r_T_go cx hlo 2 (pc' := 260) (L' := (q_args 0 [.inr (.inr (some (0, 0))), .inl x])) (st' := []) (σ' := r_mS (.inl x)) (fun _ => rfl) (fin _ ⟨rfl, trivial⟩ x hm)
    · rw [if_neg hd] at hm
      exact r_T_go cx hlo 3 (pc' := 260) (L' := (q_args 0 [.inr (.inr (some (0, 0))), .inl x])) (st' := []) (σ' := r_mS (.inl 4)) (fun _ => rfl) (fin _ ⟨rfl, trivial⟩ 4 hm)
  · rw [if_neg hc] at hm
    exact r_T_go cx hlo 3 (pc' := 260) (L' := (q_args 0 [.inr (.inr (some (0, 0))), .inl x])) (st' := []) (σ' := r_mS (.inl 1)) (fun _ => rfl) (fin _ ⟨rfl, trivial⟩ 1 hm)
