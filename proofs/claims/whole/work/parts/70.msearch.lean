/-! The reference's search. Ours. -/
/-- how many rounds a search from a level may take -/
def Bf : Nat → Nat → Nat
  | 0, _ => 0
  | k + 1, m => 1 + m * (2 + Bf k 20)
def lvl (p : Nat) : Int32 := if p = 0 then im else i (p - 1)
theorem lvl_e (p : Nat) : i p + im = lvl p := by
  unfold lvl
  by_cases h : p = 0
  · rw [if_pos h, h]; rfl
  · rw [if_neg h, i_addm (by omega)]
/-- the levels up to p and the places before p stay -/
def seF (p : Nat) (σ τ : J) : Prop := mf (fun k => 52 ≤ k ∧ k ≤ 54) (fun _ => False) σ τ ∧ (∀ y, y < 4 * (p + 1) → τ.2.1 52 0 y = σ.2.1 52 0 y ∧ τ.2.2.1 53 0 y = σ.2.2.1 53 0 y) ∧ ∀ j, j < p → τ.2.1 54 0 j = σ.2.1 54 0 j
theorem seF.rf {p : Nat} {σ : J} : seF p σ σ := ⟨mf.rf, fun _ _ => ⟨rfl, rfl⟩, fun _ _ => rfl⟩
theorem seF.tr {p : Nat} {σ τ υ : J} (h1 : seF p σ τ) (h2 : seF p τ υ) : seF p σ υ := ⟨h1.1.tr h2.1, fun y hy => ⟨(h2.2.1 y hy).1.trans (h1.2.1 y hy).1, (h2.2.1 y hy).2.trans (h1.2.1 y hy).2⟩, fun j hj => (h2.2.2 j hj).trans (h1.2.2 j hj)⟩
theorem seF.dn {p : Nat} {σ τ : J} (h : seF (p + 1) σ τ) : seF p σ τ := ⟨h.1, fun y hy => h.2.1 y (by omega), fun j hj => h.2.2 j (by omega)⟩
theorem seF.lv {p : Nat} {σ τ : J} (h : lvF (p + 1) σ τ) : seF p σ τ := ⟨h.1.up (fun k q => by omega) (fun f q => q), h.2, fun j _ => by rw [(h.1.1 54 (by omega)).1]⟩
theorem seF.at {p : Nat} {σ τ : J} {v : Int32} (h : seF p σ τ) : seF p σ (q_sA τ 54 0 (upd (τ.2.1 54 0) p v)) := ⟨h.1.sA ⟨by decide, by decide⟩, h.2.1, fun j hj => by
  show upd (τ.2.1 54 0) p v j = _
  rw [upd_ne (by omega)]
  exact h.2.2 j hj⟩
theorem seF.B {p : Nat} {σ τ : J} {ts : List Tp} (h : seF p σ τ) (hB : mB σ ts) : mB τ ts := hB.fr h.1 (fun k _ _ => by omega) (fun q => q)
theorem seF.G {p r : Nat} {σ τ : J} {gs : List Fm} (h : seF p σ τ) (hG : mG σ r gs) : mG τ r gs := hG.fr h.1 (fun k _ _ => by omega)
theorem seF.A {p : Nat} {σ τ : J} {ts : List Tp} {nums : List Int32} (h : seF p σ τ) (hl : nums.length = p) (hA : mAt σ ts nums) : mAt τ ts nums := fun j m hm => by
  rw [h.2.2 j (by rw [← hl]; exact (List.getElem?_eq_some_iff.mp hm).1)]
  exact hA j m hm
theorem seF.b {p q : Nat} {σ τ : J} {bd : Bd} (h : seF p σ τ) (hq : q ≤ p) (hb : mbd σ q bd) : mbd τ q bd := fun v hv => by
  rw [(h.2.1 (4 * q + v) (by omega)).1, (h.2.1 (4 * q + v) (by omega)).2]
  exact hb v hv
def a_try (s : Int32) (ts : List Tp) (pt : Nat → List Fm) (k p : Nat) (nums : List Int32) (bd : Bd) (t : Tp) : Option Fq := if a_sees s t = true ∧ t_num t ∉ nums then (a_fits (pt p) (t_fs t) nums bd).bind fun bd1 => a_dfs s ts pt k (p + 1) (nums ++ [t_num t]) bd1 else none
theorem try_none {s : Int32} {ts : List Tp} {pt : Nat → List Fm} {k p : Nat} {nums : List Int32} {bd : Bd} {t : Tp} (h : a_cand s (pt p) nums bd t = none) : a_try s ts pt k p nums bd t = none := by
  unfold a_cand at h
  unfold a_try
  split at h
  · rename_i q; rw [if_pos q, h]; rfl
  · rename_i q; rw [if_neg q]
theorem try_some {s : Int32} {ts : List Tp} {pt : Nat → List Fm} {k p : Nat} {nums : List Int32} {bd bd1 : Bd} {t : Tp} (h : a_cand s (pt p) nums bd t = some bd1) : a_try s ts pt k p nums bd t = a_dfs s ts pt k (p + 1) (nums ++ [t_num t]) bd1 := by
  unfold a_cand at h
  unfold a_try
  split at h
  · rename_i q; rw [if_pos q, h]; rfl
  · cases h
theorem findSome_none {α β : Type} {f : α → Option β} : ∀ {l r : List α}, (∀ x ∈ l, f x = none) → (l ++ r).findSome? f = r.findSome? f := by
  intro l
  induction l with
  | nil => intro r _; rfl
  | cons a l ih =>
    intro r h
    rw [List.cons_append, List.findSome?_cons, h a List.mem_cons_self]
    exact ih (fun x hx => h x (List.mem_cons_of_mem _ hx))
theorem M_search_L {n s joined : Nat} {ts : List Tp} {pt : Nat → List Fm} (hn : n ≤ 4) (hs : s < n) (hj : joined ≤ 3) (hok : ∀ p, p < 3 → okGs (pt p)) (hts : okB n ts) (h20 : ts.length ≤ 20) :
    ∀ (k : Nat), 1 ≤ k → ∀ (m : Nat) (m1 : List Tp), m1.length ≤ m → ∀ (p r0 f : Nat) (nums : List Int32) (bd : Bd) (σ : J) (Q : Int32 × J → Prop), p + k = joined → ts.drop r0 = m1 → r0 ≤ ts.length → nums.length = p → Bf k m + 100 ≤ f → (∀ p, p < 3 → mG σ (3 * s + p) (pt p)) → mAt σ ts nums → mB σ ts → mbd σ p bd → σ.2.1 54 0 p + 1 = i r0 →
      (∀ (τ : J) (f1 : Nat), f ≤ f1 + Bf k m → seF p σ τ → m1.findSome? (a_try (i s) ts pt (k - 1) p nums bd) = none → wp (M_search_L9 n f1 (i s) (i joined) (lvl p) τ) Q) →
      (∀ (τ : J) (r : Fq), seF p σ τ → m1.findSome? (a_try (i s) ts pt (k - 1) p nums bd) = some r → mAt τ ts r.1 → mbd τ joined r.2 → Q (1, τ)) →
      wp (M_search_L9 n f (i s) (i joined) (i p) σ) Q := by
  intro k hk1
  induction k with
  | zero => omega
  | succ k ihk =>
    intro m
    induction m with
    | zero =>
      intro m1 hm p r0 f nums bd σ Q hpj hd hr0 hnl hf hG hA hB hb hat kn ks
      have hm1 : m1 = [] := List.length_eq_zero_iff.mp (by omega)
      obtain ⟨f, rfl⟩ : ∃ g, f = g + 1 := ⟨f - 1, by omega⟩
      have hip : q_in (i p) 3 = true := by rw [i_in (by omega)]; omega
      show wp (M_search_b9 n (M_search_L9 n f) f (i s) (i joined) (i p) σ) _
      unfold M_search_b9
      rw [if_neg (by rw [l0, i_lt (by omega) (by decide)]; omega), if_pos hip, i_n (by omega), hat]
      unfold M_next M_next_b0
      refine wp_bind (M_next_L (n := n) hn hs (by omega) (hok p (by omega)) hts hnl m1 r0 f σ hd hr0 (by rw [hm1]; show 0 + 30 ≤ f; unfold Bf at hf; omega) (hG p (by omega)) hA hB hb) (fun q hq => ?_)
      obtain ⟨q1, q2⟩ := q
      obtain ⟨d1, d2⟩ := hq
      dsimp only at d1 d2 ⊢
      rw [if_pos hip, bs_eq, if_pos hip]
      rcases d2 with ⟨e1, e2⟩ | ⟨pre, t, post, bd1, e1, -⟩
      · have hB2 : q2.1 24 1 0 = i ts.length := by rw [d1.1.2 1 (fun q => q)]; exact hB.1
        rw [if_pos (show (q_sA q2 54 0 (upd (q2.2.1 54 0) p q1)).2.1 54 0 p = (q_sA q2 54 0 (upd (q2.2.1 54 0) p q1)).1 24 1 0 from by show upd (q2.2.1 54 0) p q1 p = q2.1 24 1 0; rw [upd_at, e1, hB2]), show (-1 : Int32) = im from rfl, lvl_e]
        exact kn _ f (by unfold Bf; omega) (seF.lv d1).at (by rw [hm1]; rfl)
      · rw [hm1] at e1
        simp at e1
    | succ m ihm =>
      intro m1 hm p r0 f nums bd σ Q hpj hd hr0 hnl hf hG hA hB hb hat kn ks
      obtain ⟨f, rfl⟩ : ∃ g, f = g + 1 := ⟨f - 1, by omega⟩
      have hBf : Bf (k + 1) (m + 1) = Bf (k + 1) m + (2 + Bf k 20) := by
        show 1 + (m + 1) * (2 + Bf k 20) = 1 + m * (2 + Bf k 20) + (2 + Bf k 20)
        rw [Nat.add_mul, Nat.one_mul]
        omega
      have hm20 : m1.length ≤ 20 := by rw [← hd, List.length_drop]; omega
      have hip : q_in (i p) 3 = true := by rw [i_in (by omega)]; omega
      show wp (M_search_b9 n (M_search_L9 n f) f (i s) (i joined) (i p) σ) _
      unfold M_search_b9
      rw [if_neg (by rw [l0, i_lt (by omega) (by decide)]; omega), if_pos hip, i_n (by omega), hat]
      unfold M_next M_next_b0
      refine wp_bind (M_next_L (n := n) hn hs (by omega) (hok p (by omega)) hts hnl m1 r0 f σ hd hr0 (by omega) (hG p (by omega)) hA hB hb) (fun q hq => ?_)
      obtain ⟨q1, q2⟩ := q
      obtain ⟨d1, d2⟩ := hq
      dsimp only at d1 d2 ⊢
      rw [if_pos hip, bs_eq, if_pos hip]
      have hB2 : q2.1 24 1 0 = i ts.length := by rw [d1.1.2 1 (fun q => q)]; exact hB.1
      have hs1 : seF p σ (q_sA q2 54 0 (upd (q2.2.1 54 0) p q1)) := (seF.lv d1).at
      rcases d2 with ⟨e1, e2⟩ | ⟨pre, t, post, bd1, e1, e2, e3, e4, e5⟩
      · rw [if_pos (show (q_sA q2 54 0 (upd (q2.2.1 54 0) p q1)).2.1 54 0 p = (q_sA q2 54 0 (upd (q2.2.1 54 0) p q1)).1 24 1 0 from by show upd (q2.2.1 54 0) p q1 p = q2.1 24 1 0; rw [upd_at, e1, hB2]), show (-1 : Int32) = im from rfl, lvl_e]
        refine kn _ f (by omega) hs1 ?_
        have := findSome_none (r := []) (fun x hx => try_none (ts := ts) (k := k) (e2 x hx))
        rw [List.append_nil] at this
        exact this
      · have hal : r0 + pre.length < ts.length := by
          have : m1.length = pre.length + (post.length + 1) := by rw [e1, List.length_append, List.length_cons]
          rw [← hd, List.length_drop] at this
          omega
        have hta : ts[r0 + pre.length]? = some t := by
          have : m1[pre.length]? = some t := by rw [e1]; exact get_mid
          rw [← hd, List.getElem?_drop] at this
          exact this
        have hfs : m1.findSome? (a_try (i s) ts pt k p nums bd) = (match a_dfs (i s) ts pt k (p + 1) (nums ++ [t_num t]) bd1 with | some b => some b | none => post.findSome? (a_try (i s) ts pt k p nums bd)) := by
          rw [e1, findSome_none (fun x hx => try_none (e2 x hx)), List.findSome?_cons, try_some e3]
          cases a_dfs (i s) ts pt k (p + 1) (nums ++ [t_num t]) bd1 <;> rfl
        rw [if_neg (show ¬ (q_sA q2 54 0 (upd (q2.2.1 54 0) p q1)).2.1 54 0 p = (q_sA q2 54 0 (upd (q2.2.1 54 0) p q1)).1 24 1 0 from by
          show ¬ upd (q2.2.1 54 0) p q1 p = q2.1 24 1 0
          rw [upd_at, e4, hB2, i_eq (by omega) (by omega)]
          omega)]
        have hA1 : mAt (q_sA q2 54 0 (upd (q2.2.1 54 0) p q1)) ts (nums ++ [t_num t]) := by
          intro j mm hmm
          by_cases ej : j < nums.length
          · rw [List.getElem?_append_left ej] at hmm
            obtain ⟨a, u, a1, a2⟩ := hA j mm hmm
            exact ⟨a, u, by rw [hs1.2.2 j (by omega)]; exact a1, a2⟩
          · have hjl := (List.getElem?_eq_some_iff.mp hmm).1
            rw [List.length_append] at hjl
            replace hjl : j < nums.length + 1 := hjl
            obtain rfl : j = nums.length := by omega
            rw [List.getElem?_append_right (Nat.le_refl _), Nat.sub_self] at hmm
            cases hmm
            refine ⟨r0 + pre.length, t, ?_, by omega, hta, rfl⟩
            show upd (q2.2.1 54 0) p q1 nums.length = _
            rw [hnl, upd_at, e4]
        cases k with
        | zero =>
          rw [l1, i_sub (by omega), if_pos (show i p = i (joined - 1) from by rw [show p = joined - 1 by omega])]
          simp only [show (i 1 &&& i 1 = i 1) = True from propext ⟨fun _ => trivial, fun _ => rfl⟩, if_true, wp_some]
          refine ks _ (nums ++ [t_num t], bd1) hs1 (by rw [show (0 + 1 - 1) = 0 from rfl, hfs]; rfl) hA1 ?_
          rw [show joined = p + 1 by omega]
          exact e5
        | succ k =>
          have hip1 : q_in (i (p + 1)) 3 = true := by rw [i_in (by omega)]; omega
          rw [l1, i_sub (by omega), if_neg (show ¬ i p = i (joined - 1) from by rw [i_eq (by omega) (by omega)]; omega), i_add, if_pos hip1, bs_eq, i_n (by omega)]
          have hdn : ∀ {τ : J}, seF (p + 1) (q_sA (q_sA q2 54 0 (upd (q2.2.1 54 0) p q1)) 54 0 (upd ((q_sA q2 54 0 (upd (q2.2.1 54 0) p q1)).2.1 54 0) (p + 1) (-1))) τ → seF p σ τ ∧ τ.2.1 54 0 p = i (r0 + pre.length) := by
            intro τ h
            have hx : seF (p + 1) (q_sA q2 54 0 (upd (q2.2.1 54 0) p q1)) τ := (seF.at (p := p + 1) (v := -1) (seF.rf (σ := q_sA q2 54 0 (upd (q2.2.1 54 0) p q1)))).tr h
            refine ⟨hs1.tr hx.dn, ?_⟩
            rw [hx.2.2 p (by omega)]
            show upd (q2.2.1 54 0) p q1 p = _
            rw [upd_at, e4]
          have hs2 : seF p σ (q_sA (q_sA q2 54 0 (upd (q2.2.1 54 0) p q1)) 54 0 (upd ((q_sA q2 54 0 (upd (q2.2.1 54 0) p q1)).2.1 54 0) (p + 1) (-1))) := (hdn seF.rf).1
          have hs3 : seF (p + 1) (q_sA q2 54 0 (upd (q2.2.1 54 0) p q1)) (q_sA (q_sA q2 54 0 (upd (q2.2.1 54 0) p q1)) 54 0 (upd ((q_sA q2 54 0 (upd (q2.2.1 54 0) p q1)).2.1 54 0) (p + 1) (-1))) := seF.at (p := p + 1) seF.rf
          refine ihk (by omega) 20 ts h20 (p + 1) 0 f (nums ++ [t_num t]) bd1 _ Q (by omega) rfl (Nat.zero_le _) (by rw [List.length_append, hnl]; rfl) (by omega) (fun q hq => hs2.G (hG q hq)) (hs3.A (by rw [List.length_append, hnl]; rfl) hA1) (hs2.B hB) (hs3.b (by omega) e5) (by
            show upd ((q_sA q2 54 0 (upd (q2.2.1 54 0) p q1)).2.1 54 0) (p + 1) (-1) (p + 1) + 1 = i 0
            rw [upd_at]; rfl) (fun τ f1 hf1 hτ hno => ?_) (fun τ r hτ hso hAr hbr => ?_)
          · obtain ⟨hst, ha54⟩ := hdn hτ
            have hdf : a_dfs (i s) ts pt (k + 1) (p + 1) (nums ++ [t_num t]) bd1 = none := hno
            have hlv : lvl (p + 1) = i p := by unfold lvl; rw [if_neg (by omega), Nat.add_sub_cancel]
            rw [hlv]
            have hpl : post.length ≤ m := by
              rw [e1, List.length_append, List.length_cons] at hm
              omega
            rw [hdf] at hfs
            refine ihm post hpl p (r0 + pre.length + 1) f1 nums bd τ Q hpj ?_ (by omega) hnl (by omega) (fun q hq => hst.G (hG q hq)) (hst.A hnl hA) (hst.B hB) (hst.b (Nat.le_refl _) hb) (by rw [ha54, l1, i_add]) (fun υ f2 hf2 hυ hno2 => kn υ f2 (by omega) (hst.tr hυ) (hfs.trans hno2)) (fun υ r hυ hso2 hAr hbr => ks υ r (hst.tr hυ) (hfs.trans hso2) hAr hbr)
            have : m1.drop (pre.length + 1) = post := by
              rw [e1, List.drop_append, List.drop_eq_nil_of_le (by omega), show pre.length + 1 - pre.length = 1 by omega]
              rfl
            rw [← hd, List.drop_drop, show r0 + (pre.length + 1) = r0 + pre.length + 1 by omega] at this
            exact this
          · have hdf : a_dfs (i s) ts pt (k + 1) (p + 1) (nums ++ [t_num t]) bd1 = some r := hso
            rw [hdf] at hfs
            exact ks τ r (hdn hτ).1 hfs hAr hbr
