/-! The run's invariant: every call keeps it, and it holds at the beginning. Ours. -/
theorem go_now {n t : Nat} : q_goN n (Iv n (t + 1)) (Iv n t) (fun w => ∃ v, w = .inl v) 19 103 [] := by
  intro σ hI
  obtain ⟨a, hc, hm, hw, hl, hn⟩ := hI
  obtain ⟨w, m1, m2, m3⟩ := M_now_s (n := n) hm
  have hsm := q_ex_M (M_now_e m1) ⟨rfl, trivial⟩
  refine ⟨.inl (i a.1), σ, w.2, q_ex_dd (JB_now_e (JB_now_s hc)) (by decide), ?_, ⟨a, cA_sm hc hw hsm, m3, hw, by omega, by omega⟩, _, rfl⟩
  have := q_ex_dd (d' := 20) (M_now_e m1) (by decide)
  unfold M_now_r at this
  rw [m2] at this
  exact this
theorem go_about {n t : Nat} (v0 v1 : Int32) : q_goN n (Iv n (t + 1)) (Iv n t) (fun w => ∃ v, w = .inr (.inl v)) 2 80 [.inl v0, .inl v1] := by
  intro σ hI
  obtain ⟨a, hc, hm, hw, hl, hn⟩ := hI
  obtain ⟨F, hF⟩ : ∃ F, F = 100000 := ⟨_, rfl⟩
  obtain ⟨w, m1, m2, m4, m3⟩ := M_about_s (n := n) (f := F) (m := v0) (w := v1) hm hw (by rw [hF]; decide)
  have hsm := q_ex_M (M_about_e m1) ⟨rfl, trivial, trivial, trivial⟩
  refine ⟨.inr (.inl (o_about v0 v1 a)), σ, w.2, q_ex_dd (JB_about_e (JB_about_s (f := F) hc hw (by rw [hF]; decide))) (by decide), ?_, ⟨a, cA_sm hc hw hsm, m3, hw, by omega, by omega⟩, _, rfl⟩
  have := q_ex_dd (d' := 20) (M_about_e m1) (by decide)
  unfold M_about_r at this
  rw [m2] at this
  exact this
theorem go_all {n t : Nat} : q_go20 n (Iv n (t + 1)) (Iv n t) := ⟨go_field, go_form, go_forget, go_put, go_find, go_stop, go_swap, go_fold, go_order, go_collect, go_open, go_commit, go_abandon, go_renew, go_tick, go_now, go_session, go_found, go_seen, go_about⟩
def a_0 : Sq := (0, 0, [], [], fun _ => 0, fun _ => [], fun _ _ => [], fun _ => i 0, fun _ => 0, fun _ => false, fun _ => a_fn0, [])
theorem Iv_0 {n : Nat} (h : n ≤ 4) : Iv n 512 (q_s0 n) := by
  refine ⟨a_0, ⟨⟨fun s _ => rfl, fun s _ => rfl, fun s p _ _ => rfl, fun o _ => rfl⟩, rfl, rfl, ⟨0, by decide, rfl, ⟨fun j hj => hj, fun j k _ _ e => e⟩, rfl⟩, ⟨rfl, by decide, (fun s q => nomatch q), (fun j s q => nomatch q)⟩, fun s _ => rfl, fun s _ => ⟨rfl, (fun j x q => nomatch q)⟩, fun s p _ _ => ⟨rfl, (fun j x q => nomatch q)⟩, fun s _ => rfl, (fun s q => nomatch q), fun s _ => ⟨fun j _ => rfl, 0, by decide, rfl, fun v _ => by rw [Nat.zero_testBit]; rfl⟩, rfl, (fun j o q => nomatch q), fun j _ _ => ⟨rfl, rfl⟩⟩, ⟨rfl, rfl, rfl, ⟨rfl, by decide, (fun j t q => nomatch q)⟩, ⟨rfl, (fun j s q => nomatch q)⟩, fun s _ => rfl, fun s _ => ⟨rfl, (fun j x q => nomatch q)⟩, fun s p _ _ => ⟨rfl, (fun j x q => nomatch q)⟩, fun s _ => rfl, (fun s q => nomatch q), fun s _ => ⟨fun j _ => rfl, fun v _ => ⟨rfl, rfl⟩⟩, ⟨rfl, (fun j o q => nomatch q), fun j _ _ => ⟨rfl, rfl⟩⟩, fun v hv => ?_⟩, ⟨⟨List.nodup_nil, (fun t q => nomatch q)⟩, List.nodup_nil, (fun s q => nomatch q), fun s _ => Nat.zero_le _, fun s _ => ⟨Nat.zero_le _, (fun x q => nomatch q)⟩, fun s p _ _ => ⟨Nat.zero_le _, (fun x q => nomatch q)⟩, fun s _ => Or.inl rfl, (fun s q => nomatch q), (fun o q => nomatch q), Nat.zero_le _, Nat.zero_le _, Nat.zero_le _, h⟩, by decide, by decide⟩
  show (bif Nat.blt v 4 then (-1 : Int32) else 0) = im
  rw [show Nat.blt v 4 = true from Nat.blt_eq.mpr hv]
  rfl
theorem law_go : ∀ n, 1 ≤ n → n ≤ 4 → ∃ Inv : Nat → J → Prop, (∀ t σ, Inv (t + 1) σ → Inv t σ) ∧ Inv 512 (q_s0 n) ∧ ∀ t, t < 512 → q_go20 n (Inv (t + 1)) (Inv t) := fun n _ h => ⟨Iv n, fun _ _ q => q.dn, Iv_0 h, fun _ _ => go_all⟩
