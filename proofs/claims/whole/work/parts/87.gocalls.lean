/-! Each call: class and reference, step by step. Ours. -/
def gZ (r : Int32) : Int64 := if r = 0 then 0 else 1
theorem go_field {n t : Nat} (v0 : Int32) (v1 : Int32) (v2 : Int64) : q_goI n (Iv n (t + 1)) (Iv n t) 126 88 [.inl v0, .inl v1, .inr (.inl v2)] := by
  intro σ hI
  obtain ⟨a, hc, hm, hw, hl, hn⟩ := hI
  obtain ⟨F, hF⟩ : ∃ F, F = 100000 := ⟨_, rfl⟩
  obtain ⟨q, e1, e2, e3, e4⟩ := JB_field_s (n := n) (x := v0) (k := v1) (v := v2) hc hw
  have hm1 := mA_sm hm (q_ex_C (JB_field_e e1) ⟨rfl, trivial, trivial, trivial, trivial⟩)
  have hL : L_field n v0 v1 v2 σ = some (h_out Int32.toInt64 q) := by
    unfold L_field L_field_b0 h_out
    rw [e1, some_bind]
    obtain ⟨y, τ⟩ := q
    cases y <;> rfl
  refine go_fin (cd := id) (wv := (fun r => .inl r)) (g := Int32.toInt64) (o := (o_field n v0 v1 v2 a)) e2 e3 e4 hm1 (L_field_e hL) (by decide) (fun σ1 h1 => ?_) (de := 20) (Nat.le_refl _) ⟨rfl, trivial, trivial, trivial, trivial⟩ (fun e h => ?_) be_field.1 hl hn
  · obtain ⟨w, m1, m2, m3⟩ := M_field_s (n := n) (f := F) (x := v0) (k := v1) (v := v2) h1 hw (by rw [hF]; decide)
    exact ⟨w, q_ex_dd (M_field_e m1) (by decide), m2, m3⟩
  · have hS := be_field.2 e h
    have hS2 : e = 1 ∨ e = 2 ∨ e = 3 ∨ e = 4 := by simpa using hS
    rcases hS2 with h | h | h | h <;> rw [h] <;> exact ⟨by decide, by decide, by decide, by decide, by decide +kernel⟩
theorem go_form {n t : Nat} (v0 : Int32) (v1 : Int32) (v2 : Int32) (v3 : Int64) (v4 : Int64) : q_goI n (Iv n (t + 1)) (Iv n t) 130 94 [.inl v0, .inl v1, .inl v2, .inr (.inl v3), .inr (.inl v4)] := by
  intro σ hI
  obtain ⟨a, hc, hm, hw, hl, hn⟩ := hI
  obtain ⟨F, hF⟩ : ∃ F, F = 100000 := ⟨_, rfl⟩
  obtain ⟨q, e1, e2, e3, e4⟩ := JB_form_s (n := n) (x := v0) (p := v1) (c := v2) (va := v3) (vb := v4) hc hw
  have hm1 := mA_sm hm (q_ex_C (JB_form_e e1) ⟨rfl, trivial, trivial, trivial, trivial, trivial, trivial⟩)
  have hL : L_form n v0 v1 v2 v3 v4 σ = some (h_out Int32.toInt64 q) := by
    unfold L_form L_form_b0 h_out
    rw [e1, some_bind]
    obtain ⟨y, τ⟩ := q
    cases y <;> rfl
  refine go_fin (cd := id) (wv := (fun r => .inl r)) (g := Int32.toInt64) (o := (o_form n v0 v1 v2 v3 v4 a)) e2 e3 e4 hm1 (L_form_e hL) (by decide) (fun σ1 h1 => ?_) (de := 20) (Nat.le_refl _) ⟨rfl, trivial, trivial, trivial, trivial, trivial, trivial⟩ (fun e h => ?_) be_form.1 hl hn
  · obtain ⟨w, m1, m2, m3⟩ := M_form_s (n := n) (f := F) (x := v0) (p := v1) (c := v2) (va := v3) (vb := v4) h1 hw (by rw [hF]; decide)
    exact ⟨w, q_ex_dd (M_form_e m1) (by decide), m2, m3⟩
  · have hS := be_form.2 e h
    have hS2 : e = 1 ∨ e = 2 ∨ e = 3 ∨ e = 4 := by simpa using hS
    rcases hS2 with h | h | h | h <;> rw [h] <;> exact ⟨by decide, by decide, by decide, by decide, by decide +kernel⟩
theorem go_forget {n t : Nat} (v0 : Int32) (v1 : Int32) : q_goI n (Iv n (t + 1)) (Iv n t) 129 93 [.inl v0, .inl v1] := by
  intro σ hI
  obtain ⟨a, hc, hm, hw, hl, hn⟩ := hI
  obtain ⟨F, hF⟩ : ∃ F, F = 100000 := ⟨_, rfl⟩
  obtain ⟨q, e1, e2, e3, e4⟩ := JB_forget_s (n := n) (x := v0) (w := v1) hc hw
  have hm1 := mA_sm hm (q_ex_C (JB_forget_e e1) ⟨rfl, trivial, trivial, trivial⟩)
  have hL : L_forget n v0 v1 σ = some (h_out Int32.toInt64 q) := by
    unfold L_forget L_forget_b0 h_out
    rw [e1, some_bind]
    obtain ⟨y, τ⟩ := q
    cases y <;> rfl
  refine go_fin (cd := id) (wv := (fun r => .inl r)) (g := Int32.toInt64) (o := (o_forget n v0 v1 a)) e2 e3 e4 hm1 (L_forget_e hL) (by decide) (fun σ1 h1 => ?_) (de := 20) (Nat.le_refl _) ⟨rfl, trivial, trivial, trivial⟩ (fun e h => ?_) be_forget.1 hl hn
  · obtain ⟨w, m1, m2, m3⟩ := M_forget_s (n := n) (f := F) (x := v0) (w := v1) h1 hw (by rw [hF]; decide)
    exact ⟨w, q_ex_dd (M_forget_e m1) (by decide), m2, m3⟩
  · have hS := be_forget.2 e h
    have hS2 : e = 1 ∨ e = 2 ∨ e = 3 := by simpa using hS
    rcases hS2 with h | h | h <;> rw [h] <;> exact ⟨by decide, by decide, by decide, by decide, by decide +kernel⟩
theorem go_put {n t : Nat} (v0 : Int32) (v1 : Int32) : q_goI n (Iv n (t + 1)) (Iv n t) 134 108 [.inl v0, .inl v1] := by
  intro σ hI
  obtain ⟨a, hc, hm, hw, hl, hn⟩ := hI
  obtain ⟨F, hF⟩ : ∃ F, F = 100000 := ⟨_, rfl⟩
  obtain ⟨q, e1, e2, e3, e4⟩ := JB_put_s (n := n) (f := F) (x := v0) (y := v1) hc hw (by omega) (by rw [hF]; decide)
  have hm1 := mA_sm hm (q_ex_C (JB_put_e e1) ⟨rfl, trivial, trivial, trivial⟩)
  have hL : L_put n F v0 v1 σ = some (h_out Int32.toInt64 q) := by
    unfold L_put L_put_b0 h_out
    rw [e1, some_bind]
    obtain ⟨y, τ⟩ := q
    cases y <;> rfl
  refine go_fin (cd := id) (wv := (fun r => .inl r)) (g := Int32.toInt64) (o := (o_put n v0 v1 a)) e2 e3 e4 hm1 (L_put_e hL) (by decide) (fun σ1 h1 => ?_) (de := 20) (Nat.le_refl _) ⟨rfl, trivial, trivial, trivial⟩ (fun e h => ?_) be_put.1 hl hn
  · obtain ⟨w, m1, m2, m3⟩ := M_put_s (n := n) (f := F) (x := v0) (y := v1) h1 hw (by omega) (by rw [hF]; decide)
    exact ⟨w, q_ex_dd (M_put_e m1) (by decide), m2, m3⟩
  · have hS := be_put.2 e h
    have hS2 : e = 1 ∨ e = 2 ∨ e = 3 ∨ e = 4 := by simpa using hS
    rcases hS2 with h | h | h | h <;> rw [h] <;> exact ⟨by decide, by decide, by decide, by decide, by decide +kernel⟩
theorem go_find {n t : Nat} (v0 : Int32) (v1 : Int32) (v2 : Int32) : q_goI n (Iv n (t + 1)) (Iv n t) 127 89 [.inl v0, .inl v1, .inl v2] := by
  intro σ hI
  obtain ⟨a, hc, hm, hw, hl, hn⟩ := hI
  obtain ⟨F, hF⟩ : ∃ F, F = 100000 := ⟨_, rfl⟩
  obtain ⟨q, e1, e2, e3, e4⟩ := JB_find_s (n := n) (f := F) (x := v0) (j := v1) (h := v2) hc hw (by rw [hF]; decide)
  have hm1 := mA_sm hm (q_ex_C (JB_find_e e1) ⟨rfl, trivial, trivial, trivial, trivial⟩)
  have hL : L_find n F v0 v1 v2 σ = some (h_out Int32.toInt64 q) := by
    unfold L_find L_find_b0 h_out
    rw [e1, some_bind]
    obtain ⟨y, τ⟩ := q
    cases y <;> rfl
  refine go_fin (cd := id) (wv := (fun r => .inl r)) (g := Int32.toInt64) (o := (o_find n v0 v1 v2 a)) e2 e3 e4 hm1 (L_find_e hL) (by decide) (fun σ1 h1 => ?_) (de := 20) (Nat.le_refl _) ⟨rfl, trivial, trivial, trivial, trivial⟩ (fun e h => ?_) be_find.1 hl hn
  · obtain ⟨w, m1, m2, m3⟩ := M_find_s (n := n) (f := F) (x := v0) (j := v1) (h := v2) h1 hw (by rw [hF]; decide)
    exact ⟨w, q_ex_dd (M_find_e m1) (by decide), m2, m3⟩
  · have hS := be_find.2 e h
    have hS2 : e = 1 ∨ e = 2 ∨ e = 3 := by simpa using hS
    rcases hS2 with h | h | h <;> rw [h] <;> exact ⟨by decide, by decide, by decide, by decide, by decide +kernel⟩
theorem go_stop {n t : Nat} (v0 : Int32) : q_goZ n (Iv n (t + 1)) (Iv n t) 138 118 [.inl v0] := by
  intro σ hI
  obtain ⟨a, hc, hm, hw, hl, hn⟩ := hI
  obtain ⟨F, hF⟩ : ∃ F, F = 100000 := ⟨_, rfl⟩
  obtain ⟨q, e1, e2, e3, e4⟩ := JB_stop_s (n := n) (f := F) (x := v0) hc hw (by rw [hF]; decide)
  have hm1 := mA_sm hm (q_ex_C (JB_stop_e e1) ⟨rfl, trivial, trivial⟩)
  have hL : L_stop n F v0 σ = some (h_out gZ q) := by
    unfold L_stop L_stop_b0 L_stop_b15 h_out
    rw [e1, some_bind]
    obtain ⟨y, τ⟩ := q
    cases y with
    | inl r =>
      dsimp only
      unfold gZ
      by_cases h : r = 0
      · rw [if_pos h, if_pos h]; rfl
      · rw [if_neg h, if_neg h]; rfl
    | inr e => rfl
  refine go_fin (cd := id) (wv := (fun r => .inl r)) (g := gZ) (o := (o_stop n v0 a)) e2 e3 e4 hm1 (L_stop_e hL) (by decide) (fun σ1 h1 => ?_) (de := 20) (Nat.le_refl _) ⟨rfl, trivial, trivial⟩ (fun e h => ?_) be_stop.1 hl hn
  · obtain ⟨w, m1, m2, m3⟩ := M_stop_s (n := n) (f := F) (x := v0) h1 hw (by rw [hF]; decide)
    exact ⟨w, q_ex_dd (M_stop_e m1) (by decide), m2, m3⟩
  · have hS := be_stop.2 e h
    have hS2 : e = 1 := by simpa using hS
    rw [hS2]; exact ⟨by decide, by decide, by decide, by decide, by decide +kernel⟩
theorem go_swap {n t : Nat} (v0 : Int32) : q_goI n (Iv n (t + 1)) (Iv n t) 139 119 [.inl v0] := by
  intro σ hI
  obtain ⟨a, hc, hm, hw, hl, hn⟩ := hI
  obtain ⟨F, hF⟩ : ∃ F, F = 100000 := ⟨_, rfl⟩
  obtain ⟨q, e1, e2, e3, e4⟩ := JB_swap_s (n := n) (f := F) (x := v0) hc hw (by omega) (by rw [hF]; decide)
  have hm1 := mA_sm hm (q_ex_C (JB_swap_e e1) ⟨rfl, trivial, trivial⟩)
  have hL : L_swap n F v0 σ = some (h_out Int32.toInt64 q) := by
    unfold L_swap L_swap_b0 h_out
    rw [e1, some_bind]
    obtain ⟨y, τ⟩ := q
    cases y <;> rfl
  refine go_fin (cd := id) (wv := (fun r => .inl r)) (g := Int32.toInt64) (o := (o_swap n v0 a)) e2 e3 e4 hm1 (L_swap_e hL) (by decide) (fun σ1 h1 => ?_) (de := 20) (Nat.le_refl _) ⟨rfl, trivial, trivial⟩ (fun e h => ?_) be_swap.1 hl hn
  · obtain ⟨w, m1, m2, m3⟩ := M_swap_s (n := n) (f := F) (x := v0) h1 hw (by omega) (by rw [hF]; decide)
    exact ⟨w, q_ex_dd (M_swap_e m1) (by decide), m2, m3⟩
  · have hS := be_swap.2 e h
    have hS2 : e = 1 ∨ e = 2 ∨ e = 3 ∨ e = 4 := by simpa using hS
    rcases hS2 with h | h | h | h <;> rw [h] <;> exact ⟨by decide, by decide, by decide, by decide, by decide +kernel⟩
theorem go_fold {n t : Nat} (v0 : Int32) (v1 : Int32) (v2 : Int32) : q_goL n (Iv n (t + 1)) (Iv n t) 128 92 [.inl v0, .inl v1, .inl v2] := by
  intro σ hI
  obtain ⟨a, hc, hm, hw, hl, hn⟩ := hI
  obtain ⟨F, hF⟩ : ∃ F, F = 100000 := ⟨_, rfl⟩
  obtain ⟨q, e1, e2, e3, e4⟩ := JB_fold_s (n := n) (f := F) (x := v0) (fi := v1) (w := v2) hc hw (by rw [hF]; decide)
  have hm1 := mA_sm hm (q_ex_C (JB_fold_e e1) ⟨rfl, trivial, trivial, trivial, trivial⟩)
  have hL : L_fold n F v0 v1 v2 σ = some (h_out (fun r => r) q) := by
    unfold L_fold L_fold_b0 h_out
    rw [e1, some_bind]
    obtain ⟨y, τ⟩ := q
    cases y <;> rfl
  refine go_fin (cd := id) (wv := (fun r => .inr (.inl r))) (g := (fun r => r)) (o := (o_fold n v0 v1 v2 a)) e2 e3 e4 hm1 (L_fold_e hL) (by decide) (fun σ1 h1 => ?_) (de := 20) (Nat.le_refl _) ⟨rfl, trivial, trivial, trivial, trivial⟩ (fun e h => ?_) be_fold.1 hl hn
  · obtain ⟨w, m1, m2, m3⟩ := M_fold_s (n := n) (f := F) (x := v0) (fi := v1) (w := v2) h1 hw (by rw [hF]; decide)
    exact ⟨w, q_ex_dd (M_fold_e m1) (by decide), m2, m3⟩
  · have hS := be_fold.2 e h
    have hS2 : e = 1 ∨ e = 2 ∨ e = 3 := by simpa using hS
    rcases hS2 with h | h | h <;> rw [h] <;> exact ⟨by decide, by decide, by decide, by decide, by decide +kernel⟩
theorem go_order {n t : Nat} (v0 : Int32) : q_goI n (Iv n (t + 1)) (Iv n t) 133 105 [.inl v0] := by
  intro σ hI
  obtain ⟨a, hc, hm, hw, hl, hn⟩ := hI
  obtain ⟨F, hF⟩ : ∃ F, F = 100000 := ⟨_, rfl⟩
  obtain ⟨q, e1, e2, e3, e4⟩ := JB_order_s (n := n) (f := F) (x := v0) hc hw (by rw [hF]; decide)
  have hm1 := mA_sm hm (q_ex_C (JB_order_e e1) ⟨rfl, trivial, trivial⟩)
  have hL : L_order n F v0 σ = some (h_out Int32.toInt64 q) := by
    unfold L_order L_order_b0 h_out
    rw [e1, some_bind]
    obtain ⟨y, τ⟩ := q
    cases y <;> rfl
  refine go_fin (cd := id) (wv := (fun r => .inl r)) (g := Int32.toInt64) (o := (o_order n v0 a)) e2 e3 e4 hm1 (L_order_e hL) (by decide) (fun σ1 h1 => ?_) (de := 20) (Nat.le_refl _) ⟨rfl, trivial, trivial⟩ (fun e h => ?_) be_order.1 hl hn
  · obtain ⟨w, m1, m2, m3⟩ := M_order_s (n := n) (f := F) (x := v0) h1 hw (by rw [hF]; decide)
    exact ⟨w, q_ex_dd (M_order_e m1) (by decide), m2, m3⟩
  · have hS := be_order.2 e h
    have hS2 : e = 1 ∨ e = 2 ∨ e = 3 ∨ e = 4 := by simpa using hS
    rcases hS2 with h | h | h | h <;> rw [h] <;> exact ⟨by decide, by decide, by decide, by decide, by decide +kernel⟩
theorem go_collect {n t : Nat} (v0 : Int32) : q_goI n (Iv n (t + 1)) (Iv n t) 124 84 [.inl v0] := by
  intro σ hI
  obtain ⟨a, hc, hm, hw, hl, hn⟩ := hI
  obtain ⟨F, hF⟩ : ∃ F, F = 100000 := ⟨_, rfl⟩
  obtain ⟨q, e1, e2, e3, e4⟩ := JB_collect_s (n := n) (k := v0) hc hw
  have hm1 := mA_sm hm (q_ex_C (JB_collect_e e1) ⟨rfl, trivial, trivial⟩)
  have hL : L_collect n v0 σ = some (h_out Int32.toInt64 q) := by
    unfold L_collect L_collect_b0 h_out
    rw [e1, some_bind]
    obtain ⟨y, τ⟩ := q
    cases y <;> rfl
  refine go_fin (cd := id) (wv := (fun r => .inl r)) (g := Int32.toInt64) (o := (o_collect v0 a)) e2 e3 e4 hm1 (L_collect_e hL) (by decide) (fun σ1 h1 => ?_) (de := 20) (Nat.le_refl _) ⟨rfl, trivial, trivial⟩ (fun e h => ?_) be_collect.1 hl hn
  · obtain ⟨w, m1, m2, m3⟩ := M_collect_s (n := n) (f := F) (x := v0) h1 hw (by rw [hF]; decide)
    exact ⟨w, q_ex_dd (M_collect_e m1) (by decide), m2, m3⟩
  · have hS := be_collect.2 e h
    have hS2 : e = 1 := by simpa using hS
    rw [hS2]; exact ⟨by decide, by decide, by decide, by decide, by decide +kernel⟩
theorem go_open {n t : Nat} (v0 : Int32) : q_goI n (Iv n (t + 1)) (Iv n t) 132 104 [.inl v0] := by
  intro σ hI
  obtain ⟨a, hc, hm, hw, hl, hn⟩ := hI
  obtain ⟨F, hF⟩ : ∃ F, F = 100000 := ⟨_, rfl⟩
  obtain ⟨q, e1, e2, e3, e4⟩ := JB_open_s (n := n) (x := v0) hc hw
  have hm1 := mA_sm hm (q_ex_C (JB_open_e e1) ⟨rfl, trivial, trivial⟩)
  have hL : L_open n v0 σ = some (h_out Int32.toInt64 q) := by
    unfold L_open L_open_b0 h_out
    rw [e1, some_bind]
    obtain ⟨y, τ⟩ := q
    cases y <;> rfl
  refine go_fin (cd := c3) (wv := (fun r => .inl r)) (g := Int32.toInt64) (o := (o_open n v0 a)) e2 e3 e4 hm1 (L_open_e hL) (by decide) (fun σ1 h1 => ?_) (de := 20) (Nat.le_refl _) ⟨rfl, trivial, trivial⟩ (fun e h => ?_) be_open.1 hl hn
  · obtain ⟨w, m1, m2, m3⟩ := M_open_s (n := n) (f := F) (x := v0) h1 hw (by rw [hF]; decide)
    exact ⟨w, q_ex_dd (M_open_e m1) (by decide), m2, m3⟩
  · have hS := be_open.2 e h
    have hS2 : e = 1 ∨ e = 2 ∨ e = 4 := by simpa using hS
    rcases hS2 with h | h | h <;> rw [h] <;> exact ⟨by decide, by decide, by decide, by decide, by decide +kernel⟩
theorem go_commit {n t : Nat} (v0 : Int32) : q_goI n (Iv n (t + 1)) (Iv n t) 125 85 [.inl v0] := by
  intro σ hI
  obtain ⟨a, hc, hm, hw, hl, hn⟩ := hI
  obtain ⟨F, hF⟩ : ∃ F, F = 100000 := ⟨_, rfl⟩
  obtain ⟨q, e1, e2, e3, e4⟩ := JB_commit_s (n := n) (f := F) (x := v0) hc hw (by rw [hF]; decide)
  have hm1 := mA_sm hm (q_ex_C (JB_commit_e e1) ⟨rfl, trivial, trivial⟩)
  have hL : L_commit n F v0 σ = some (h_out Int32.toInt64 q) := by
    unfold L_commit L_commit_b0 h_out
    rw [e1, some_bind]
    obtain ⟨y, τ⟩ := q
    cases y <;> rfl
  refine go_fin (cd := id) (wv := (fun r => .inl r)) (g := Int32.toInt64) (o := (o_commit n v0 a)) e2 e3 e4 hm1 (L_commit_e hL) (by decide) (fun σ1 h1 => ?_) (de := 20) (Nat.le_refl _) ⟨rfl, trivial, trivial⟩ (fun e h => ?_) be_commit.1 hl hn
  · obtain ⟨w, m1, m2, m3⟩ := M_commit_s (n := n) (f := F) (x := v0) h1 hw (by rw [hF]; decide)
    exact ⟨w, q_ex_dd (M_commit_e m1) (by decide), m2, m3⟩
  · have hS := be_commit.2 e h
    have hS2 : e = 1 ∨ e = 2 := by simpa using hS
    rcases hS2 with h | h <;> rw [h] <;> exact ⟨by decide, by decide, by decide, by decide, by decide +kernel⟩
theorem go_abandon {n t : Nat} (v0 : Int32) : q_goI n (Iv n (t + 1)) (Iv n t) 123 79 [.inl v0] := by
  intro σ hI
  obtain ⟨a, hc, hm, hw, hl, hn⟩ := hI
  obtain ⟨F, hF⟩ : ∃ F, F = 100000 := ⟨_, rfl⟩
  obtain ⟨q, e1, e2, e3, e4⟩ := JB_abandon_s (n := n) (f := F) (x := v0) hc hw (by rw [hF]; decide)
  have hm1 := mA_sm hm (q_ex_C (JB_abandon_e e1) ⟨rfl, trivial, trivial⟩)
  have hL : L_abandon n F v0 σ = some (h_out Int32.toInt64 q) := by
    unfold L_abandon L_abandon_b0 h_out
    rw [e1, some_bind]
    obtain ⟨y, τ⟩ := q
    cases y <;> rfl
  refine go_fin (cd := id) (wv := (fun r => .inl r)) (g := Int32.toInt64) (o := (o_abandon n v0 a)) e2 e3 e4 hm1 (L_abandon_e hL) (by decide) (fun σ1 h1 => ?_) (de := 20) (Nat.le_refl _) ⟨rfl, trivial, trivial⟩ (fun e h => ?_) be_abandon.1 hl hn
  · obtain ⟨w, m1, m2, m3⟩ := M_abandon_s (n := n) (f := F) (x := v0) h1 hw (by rw [hF]; decide)
    exact ⟨w, q_ex_dd (M_abandon_e m1) (by decide), m2, m3⟩
  · have hS := be_abandon.2 e h
    have hS2 : e = 1 ∨ e = 2 := by simpa using hS
    rcases hS2 with h | h <;> rw [h] <;> exact ⟨by decide, by decide, by decide, by decide, by decide +kernel⟩
theorem go_renew {n t : Nat} (v0 : Int32) (v1 : Int32) (v2 : Int32) : q_goZ n (Iv n (t + 1)) (Iv n t) 135 111 [.inl v0, .inl v1, .inl v2] := by
  intro σ hI
  obtain ⟨a, hc, hm, hw, hl, hn⟩ := hI
  obtain ⟨F, hF⟩ : ∃ F, F = 100000 := ⟨_, rfl⟩
  obtain ⟨q, e1, e2, e3, e4⟩ := JB_renew_s (n := n) (f := F) (x := v0) (m := v1) (y := v2) hc hw (by rw [hF]; decide)
  have hm1 := mA_sm hm (q_ex_C (JB_renew_e e1) ⟨rfl, trivial, trivial, trivial, trivial⟩)
  have hL : L_renew n F v0 v1 v2 σ = some (h_out gZ q) := by
    unfold L_renew L_renew_b0 L_renew_b18 h_out
    rw [e1, some_bind]
    obtain ⟨y, τ⟩ := q
    cases y with
    | inl r =>
      dsimp only
      unfold gZ
      by_cases h : r = 0
      · rw [if_pos h, if_pos h]; rfl
      · rw [if_neg h, if_neg h]; rfl
    | inr e => rfl
  refine go_fin (cd := id) (wv := (fun r => .inl r)) (g := gZ) (o := (o_renew n v0 v1 v2 a)) e2 e3 e4 hm1 (L_renew_e hL) (by decide) (fun σ1 h1 => ?_) (de := 20) (Nat.le_refl _) ⟨rfl, trivial, trivial, trivial, trivial⟩ (fun e h => ?_) be_renew.1 hl hn
  · obtain ⟨w, m1, m2, m3⟩ := M_renew_s (n := n) (f := F) (x := v0) (m := v1) (y := v2) h1 hw (by rw [hF]; decide)
    exact ⟨w, q_ex_dd (M_renew_e m1) (by decide), m2, m3⟩
  · have hS := be_renew.2 e h
    have hS2 : e = 1 ∨ e = 2 ∨ e = 3 := by simpa using hS
    rcases hS2 with h | h | h <;> rw [h] <;> exact ⟨by decide, by decide, by decide, by decide, by decide +kernel⟩
theorem go_tick {n t : Nat} (v0 : Int32) : q_goI n (Iv n (t + 1)) (Iv n t) 140 121 [.inl v0] := by
  intro σ hI
  obtain ⟨a, hc, hm, hw, hl, hn⟩ := hI
  obtain ⟨F, hF⟩ : ∃ F, F = 100000 := ⟨_, rfl⟩
  obtain ⟨q, e1, e2, e3, e4⟩ := JB_tick_s (n := n) (f := F) (x := v0) hc hw (by omega) (by rw [hF]; decide)
  have hm1 := mA_sm hm (q_ex_C (JB_tick_e e1) ⟨rfl, trivial, trivial⟩)
  have hL : L_tick n F v0 σ = some (h_out Int32.toInt64 q) := by
    unfold L_tick L_tick_b0 h_out
    rw [e1, some_bind]
    obtain ⟨y, τ⟩ := q
    cases y <;> rfl
  refine go_fin (cd := c1) (wv := (fun r => .inl r)) (g := Int32.toInt64) (o := (o_tick v0 a)) e2 e3 e4 hm1 (L_tick_e hL) (by decide) (fun σ1 h1 => ?_) (de := 20) (Nat.le_refl _) ⟨rfl, trivial, trivial⟩ (fun e h => ?_) be_tick.1 hl hn
  · obtain ⟨w, m1, m2, m3⟩ := M_tick_s (n := n) (f := F) (x := v0) h1 hw (by omega) (by rw [hF]; decide)
    exact ⟨w, q_ex_dd (M_tick_e m1) (by decide), m2, m3⟩
  · have hS := be_tick.2 e h
    have hS2 : e = 3 := by simpa using hS
    rw [hS2]; exact ⟨by decide, by decide, by decide, by decide, by decide +kernel⟩
theorem go_session {n t : Nat} (v0 : Int32) (v1 : Int32) : q_goI n (Iv n (t + 1)) (Iv n t) 137 116 [.inl v0, .inl v1] := by
  intro σ hI
  obtain ⟨a, hc, hm, hw, hl, hn⟩ := hI
  obtain ⟨F, hF⟩ : ∃ F, F = 100000 := ⟨_, rfl⟩
  have e1 := JB_session_s (n := n) (f := F) (σ := σ) (x := v0) (w := v1) hc hw (by rw [hF]; decide)
  obtain ⟨q, hqe⟩ : ∃ q, q = (o_session n v0 v1 a, σ) := ⟨_, rfl⟩
  rw [← hqe] at e1
  have e2 : q.1 = o_session n v0 v1 a := by rw [hqe]
  have e3 : cA n q.2 a := by rw [hqe]; exact hc
  have e4 := hw
  have hm1 := mA_sm hm (q_ex_C (JB_session_e e1) ⟨rfl, trivial, trivial, trivial⟩)
  have hL : L_session n F v0 v1 σ = some (h_out Int32.toInt64 q) := by
    unfold L_session L_session_b0 h_out
    rw [e1, some_bind]
    obtain ⟨y, τ⟩ := q
    cases y <;> rfl
  refine go_fin (cd := id) (wv := (fun r => .inl r)) (g := Int32.toInt64) (o := (o_session n v0 v1 a, a)) e2 e3 e4 hm1 (L_session_e hL) (by decide) (fun σ1 h1 => ?_) (de := 20) (Nat.le_refl _) ⟨rfl, trivial, trivial, trivial⟩ (fun e h => ?_) bnd.rf hl hn
  · obtain ⟨w, m1, m2, m3⟩ := M_session_s (n := n) (f := F) (x := v0) (w := v1) h1 hw (by rw [hF]; decide)
    exact ⟨w, q_ex_dd (M_session_e m1) (by decide), m2, m3⟩
  · have hS := be_session e h
    have hS2 : e = 1 := by simpa using hS
    rw [hS2]; exact ⟨by decide, by decide, by decide, by decide, by decide +kernel⟩
theorem go_found {n t : Nat} (v0 : Int32) (v1 : Int32) : q_goL n (Iv n (t + 1)) (Iv n t) 131 95 [.inl v0, .inl v1] := by
  intro σ hI
  obtain ⟨a, hc, hm, hw, hl, hn⟩ := hI
  obtain ⟨F, hF⟩ : ∃ F, F = 100000 := ⟨_, rfl⟩
  have e1 := JB_found_s (n := n) (σ := σ) (x := v0) (w := v1) hc hw
  obtain ⟨q, hqe⟩ : ∃ q, q = (o_found n v0 v1 a, σ) := ⟨_, rfl⟩
  rw [← hqe] at e1
  have e2 : q.1 = o_found n v0 v1 a := by rw [hqe]
  have e3 : cA n q.2 a := by rw [hqe]; exact hc
  have e4 := hw
  have hm1 := mA_sm hm (q_ex_C (JB_found_e e1) ⟨rfl, trivial, trivial, trivial⟩)
  have hL : L_found n v0 v1 σ = some (h_out (fun r => r) q) := by
    unfold L_found L_found_b0 h_out
    rw [e1, some_bind]
    obtain ⟨y, τ⟩ := q
    cases y <;> rfl
  refine go_fin (cd := id) (wv := (fun r => .inr (.inl r))) (g := (fun r => r)) (o := (o_found n v0 v1 a, a)) e2 e3 e4 hm1 (L_found_e hL) (by decide) (fun σ1 h1 => ?_) (de := 20) (Nat.le_refl _) ⟨rfl, trivial, trivial, trivial⟩ (fun e h => ?_) bnd.rf hl hn
  · obtain ⟨w, m1, m2, m3⟩ := M_found_s (n := n) (x := v0) (w := v1) h1 hw 
    exact ⟨w, q_ex_dd (M_found_e m1) (by decide), m2, m3⟩
  · have hS := be_found e h
    have hS2 : e = 1 := by simpa using hS
    rw [hS2]; exact ⟨by decide, by decide, by decide, by decide, by decide +kernel⟩
theorem go_seen {n t : Nat} (v0 : Int32) (v1 : Int32) : q_goI n (Iv n (t + 1)) (Iv n t) 136 113 [.inl v0, .inl v1] := by
  intro σ hI
  obtain ⟨a, hc, hm, hw, hl, hn⟩ := hI
  obtain ⟨F, hF⟩ : ∃ F, F = 100000 := ⟨_, rfl⟩
  have e1 := JB_seen_s (n := n) (f := F) (σ := σ) (x := v0) (k := v1) hc hw (by rw [hF]; decide)
  obtain ⟨q, hqe⟩ : ∃ q, q = (o_seen n v0 v1 a, σ) := ⟨_, rfl⟩
  rw [← hqe] at e1
  have e2 : q.1 = o_seen n v0 v1 a := by rw [hqe]
  have e3 : cA n q.2 a := by rw [hqe]; exact hc
  have e4 := hw
  have hm1 := mA_sm hm (q_ex_C (JB_seen_e e1) ⟨rfl, trivial, trivial, trivial⟩)
  have hL : L_seen n F v0 v1 σ = some (h_out Int32.toInt64 q) := by
    unfold L_seen L_seen_b0 h_out
    rw [e1, some_bind]
    obtain ⟨y, τ⟩ := q
    cases y <;> rfl
  refine go_fin (cd := id) (wv := (fun r => .inl r)) (g := Int32.toInt64) (o := (o_seen n v0 v1 a, a)) e2 e3 e4 hm1 (L_seen_e hL) (by decide) (fun σ1 h1 => ?_) (de := 20) (Nat.le_refl _) ⟨rfl, trivial, trivial, trivial⟩ (fun e h => ?_) bnd.rf hl hn
  · obtain ⟨w, m1, m2, m3⟩ := M_seen_s (n := n) (f := F) (x := v0) (k := v1) h1 hw (by rw [hF]; decide)
    exact ⟨w, q_ex_dd (M_seen_e m1) (by decide), m2, m3⟩
  · have hS := be_seen e h
    have hS2 : e = 1 := by simpa using hS
    rw [hS2]; exact ⟨by decide, by decide, by decide, by decide, by decide +kernel⟩
