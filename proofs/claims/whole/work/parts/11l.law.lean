/-! Clauses, laws -/
def q_cr (z : Int) : Prop := 0 ≤ z ∧ z ≤ 200000
theorem q_p_cr (b : Nat → Int) (n : Nat) : ∀ (f tag dp i : Nat) (cs : List Int) (v : q_LV) (j : Nat) (c : List Int) (w : q_LV), q_p b n f tag dp i cs v = some (.inr (j, c, w)) → (∀ z ∈ cs, q_cr z) → ∀ z ∈ c, q_cr z
  | 0, tag, dp, i, cs, v, j, c, w, h, hc => by cases h
  | f + 1, tag, dp, i, cs, v, j, c, w, h, hc => by
    have ih := q_p_cr b n f
    have ap : ∀ {c1 : List Int} {o : Int}, (∀ z ∈ c1, q_cr z) → q_cr o → ∀ z ∈ c1 ++ [o], q_cr z := by
      intro c1 o h1 h2 z hz
      rcases List.mem_append.mp hz with q | q
      · exact h1 z q
      · rw [List.mem_singleton.mp q]; exact h2
    have lp : ∀ (o : Int) (t T i' : Nat), q_cr o → q_bd (q_p b n f t dp i' cs q_z) (fun j c w => q_p b n f T dp j (c ++ [o]) (q_j o v w)) = some (.inr (j, c, w)) → ∀ z ∈ c, q_cr z := by
      intro o t T i' ho hh
      obtain ⟨j1, c1, w1, e1, e2⟩ := q_bd_ok hh
      exact ih _ _ _ _ _ _ _ _ e2 (ap (ih _ _ _ _ _ _ _ _ e1 hc) ho)
    have sq : ∀ (t T : Nat), q_bd (q_p b n f t dp i cs q_z) (fun j c w => q_p b n f T dp j c w) = some (.inr (j, c, w)) → ∀ z ∈ c, q_cr z := by
      intro t T hh
      obtain ⟨j1, c1, w1, e1, e2⟩ := q_bd_ok hh
      exact ih _ _ _ _ _ _ _ _ e2 (ih _ _ _ _ _ _ _ _ e1 hc)
    have br : ∀ (t i' : Nat) (z : Int), q_bd (q_p b n f t (dp + 1) i' cs q_z) (fun j c w => if q_tk b n j = z then some (.inr (q_s b n (j + 1), c, w)) else some (.inl j)) = some (.inr (j, c, w)) → ∀ z ∈ c, q_cr z := by
      intro t i' z hh
      obtain ⟨j1, c1, w1, e1, e2⟩ := q_bd_ok hh
      by_cases q : q_tk b n j1 = z
      · rw [if_pos q] at e2; cases e2; exact ih _ _ _ _ _ _ _ _ e1 hc
      · rw [if_neg q] at e2; cases e2
    have stay : ∀ {x : q_LV}, (some (.inr (i, cs, x)) : q_PR) = some (.inr (j, c, w)) → ∀ z ∈ c, q_cr z := by
      intro x hh; cases hh; exact hc
    by_cases h0 : tag = 0
    · subst h0
      rw [q_p0] at h
      by_cases k1 : q_tk b n i = 91
      · rw [if_pos k1] at h
        by_cases k2 : dp = 6
        · rw [if_pos k2] at h; cases h
        · rw [if_neg k2] at h; exact br _ _ _ h
      · rw [if_neg k1] at h
        by_cases k2 : 0 ≤ q_li (q_tk b n i)
        · rw [if_pos k2] at h
          cases h
          have := (q_li_nn k2).2
          exact ap hc ⟨k2, by omega⟩
        · rw [if_neg k2] at h
          by_cases k3 : q_dg b n 5 i = 0
          · rw [if_pos k3] at h; cases h
          · rw [if_neg k3] at h
            by_cases k4 : q_dg b n 5 i = 5
            · rw [if_pos k4] at h; cases h
            · rw [if_neg k4] at h
              cases h
              have d0 := q_dg_le b n 5 i
              have d1 := q_nv_rg (b := b) (i := i) (q_dg b n 5 i) (fun x hx => (q_dg_in b n 5 i x hx).2)
              have d2 : (10 : Nat) ^ (q_dg b n 5 i) ≤ 10 ^ 4 := Nat.pow_le_pow_right (by decide) (by omega)
              exact ap hc ⟨by omega, by omega⟩
    by_cases h1 : tag = 1
    · subst h1; rw [q_p1] at h; exact sq _ _ h
    by_cases h2 : tag = 2
    · subst h2
      rw [q_p2] at h
      by_cases k1 : q_tk b n i = 42
      · rw [if_pos k1] at h; exact lp _ _ _ _ ⟨by decide, by decide⟩ h
      · rw [if_neg k1] at h
        by_cases k2 : q_tk b n i = 47
        · rw [if_pos k2] at h; exact lp _ _ _ _ ⟨by decide, by decide⟩ h
        · rw [if_neg k2] at h; exact stay h
    by_cases h3 : tag = 3
    · subst h3; rw [q_p3] at h; exact sq _ _ h
    by_cases h4 : tag = 4
    · subst h4
      rw [q_p4] at h
      by_cases k1 : q_tk b n i = 43
      · rw [if_pos k1] at h; exact lp _ _ _ _ ⟨by decide, by decide⟩ h
      · rw [if_neg k1] at h
        by_cases k2 : q_tk b n i = 45
        · rw [if_pos k2] at h; exact lp _ _ _ _ ⟨by decide, by decide⟩ h
        · rw [if_neg k2] at h; exact stay h
    by_cases h5 : tag = 5
    · subst h5
      rw [q_p5] at h
      by_cases k1 : q_tk b n i = 33
      · rw [if_pos k1] at h
        by_cases k2 : dp = 6
        · rw [if_pos k2] at h; cases h
        · rw [if_neg k2] at h
          obtain ⟨j1, c1, w1, e1, e2⟩ := q_bd_ok h
          cases e2
          exact ap (ih _ _ _ _ _ _ _ _ e1 hc) ⟨by decide, by decide⟩
      · rw [if_neg k1] at h
        by_cases k2 : q_tk b n i = 40
        · rw [if_pos k2] at h
          by_cases k3 : dp = 6
          · rw [if_pos k3] at h; cases h
          · rw [if_neg k3] at h; exact br _ _ _ h
        · rw [if_neg k2] at h; exact sq _ _ h
    by_cases h6 : tag = 6
    · subst h6
      rw [q_p6] at h
      by_cases k1 : q_cs (q_tk b n i) = -1
      · rw [if_pos k1] at h; cases h
      · rw [if_neg k1] at h
        obtain ⟨j1, c1, w1, e1, e2⟩ := q_bd_ok h
        cases e2
        have := q_cs_rg k1
        exact ap (ih _ _ _ _ _ _ _ _ e1 hc) ⟨by omega, by omega⟩
    by_cases h7 : tag = 7
    · subst h7; rw [q_p7] at h; exact sq _ _ h
    by_cases h8 : tag = 8
    · subst h8
      rw [q_p8] at h
      by_cases k1 : q_tk b n i = 38
      · rw [if_pos k1] at h; exact lp _ _ _ _ ⟨by decide, by decide⟩ h
      · rw [if_neg k1] at h; exact stay h
    by_cases h9 : tag = 9
    · subst h9; rw [q_p9] at h; exact sq _ _ h
    by_cases h10 : tag = 10
    · subst h10
      rw [q_p10] at h
      by_cases k1 : q_tk b n i = 124
      · rw [if_pos k1] at h; exact lp _ _ _ _ ⟨by decide, by decide⟩ h
      · rw [if_neg k1] at h; exact stay h
    · rw [q_p.eq_def] at h
      simp only [h0, h1, h2, h3, h4, h5, h6, h7, h8, h9, h10, if_false] at h
      cases h
abbrev q_CR : Type := Option (Nat ⊕ (Nat × List Int × q_LV × q_LV))
def q_bc (r : q_PR) (K : Nat → List Int → q_LV → q_CR) : q_CR := match r with
  | none => none
  | some (.inl e) => some (.inl e)
  | some (.inr x) => K x.1 x.2.1 x.2.2
def q_one : q_LV := fun _ => 1
/-- ? and the sum, behind a condition -/
def q_case (b : Nat → Int) (n f j : Nat) (c : List Int) (v : q_LV) : q_CR :=
  if q_tk b n j = 63 then q_bc (q_p b n f 3 0 (q_s b n (j + 1)) (c ++ [100000]) q_z) (fun j' c' w => some (.inr (j', c'.set c.length (100000 + ((c'.length : Int) + 1)) ++ [20], v, w)))
  else some (.inl j)
/-- what stands behind y and : -/
def q_cb (b : Nat → Int) (n f j : Nat) (cs : List Int) : q_CR :=
  if q_tk b n j = 33 ∨ q_tk b n j = 40 then q_bc (q_p b n f 9 0 j cs q_z) (q_case b n f)
  else q_bc (q_p b n f 3 0 j cs q_z) fun j2 c v => if q_cs (q_tk b n j2) = -1 then some (.inr (j2, c ++ [20], q_one, v)) else q_bc (q_p b n f 6 0 j2 c v) fun j3 c3 v3 => q_bc (q_p b n f 8 0 j3 c3 v3) fun j4 c4 v4 => q_bc (q_p b n f 10 0 j4 c4 v4) (q_case b n f)
def q_clause (b : Nat → Int) (n f i : Nat) (cs : List Int) : q_CR :=
  if q_tk b n i = 121 then (if q_tk b n (q_s b n (i + 1)) = 58 then q_cb b n f (q_s b n (q_s b n (i + 1) + 1)) cs else some (.inl (q_s b n (i + 1)))) else some (.inl i)
abbrev q_AV : Type := (Nat → Int) → Option Int
def q_ac (a : q_AV) (v w : q_LV) : q_AV := fun lt => match a lt with
  | some x => some x
  | none => if v lt = 0 then none else some (w lt)
def q_lw (b : Nat → Int) (n f : Nat) : Nat → Nat → List Int → q_AV → Option (Nat ⊕ (List Int × q_AV))
  | 0, _, _, _ => none
  | m + 1, i, cs, a => match q_clause b n f i cs with
    | none => none
    | some (.inl e) => some (.inl e)
    | some (.inr x) => if n ≤ x.1 then some (.inr (x.2.1, q_ac a x.2.2.1 x.2.2.2)) else if q_tk b n x.1 = 59 then q_lw b n f m (q_s b n (x.1 + 1)) x.2.1 (q_ac a x.2.2.1 x.2.2.2) else some (.inl x.1)
theorem q_bc_ok {r : q_PR} {K : Nat → List Int → q_LV → q_CR} {x : Nat × List Int × q_LV × q_LV} (h : q_bc r K = some (.inr x)) : ∃ j c w, r = some (.inr (j, c, w)) ∧ K j c w = some (.inr x) := by
  match r, h with
  | none, h => cases h
  | some (.inl e), h => cases h
  | some (.inr (j, c, w)), h => exact ⟨j, c, w, rfl, h⟩
theorem q_bc_er {r : q_PR} {K : Nat → List Int → q_LV → q_CR} {e : Nat} (h : q_bc r K = some (.inl e)) : r = some (.inl e) ∨ ∃ j c w, r = some (.inr (j, c, w)) ∧ K j c w = some (.inl e) := by
  match r, h with
  | none, h => cases h
  | some (.inl e'), h => cases h; exact Or.inl rfl
  | some (.inr (j, c, w)), h => exact Or.inr ⟨j, c, w, rfl, h⟩
theorem q_bc_tot {r : q_PR} {K : Nat → List Int → q_LV → q_CR} (h : r ≠ none) (hK : ∀ j c w, r = some (.inr (j, c, w)) → K j c w ≠ none) : q_bc r K ≠ none := by
  match r, h with
  | none, h => exact absurd rfl h
  | some (.inl e'), h => intro q; cases q
  | some (.inr (j, c, w)), h => exact hK j c w rfl
/-- cs, then a condition's code d (condition v) or none: the clause's own end -/
def q_run (c : Nat → Int) (N : Nat) (lt : Nat → Int) (p : Nat) (st : List Int) (x : Int) : Prop := ∃ fu, q_ex c N lt fu p st = some x
theorem q_seg_run {ds : List Int} {lt : Nat → Int} {D : Nat} {s0 s1 : List Int} (h : q_seg ds lt D s0 s1) {c : Nat → Int} {N p : Nat} {st : List Int} {x : Int} (hc : ∀ x, x < ds.length → c (p + x) = ds.getD x 0) (hN : p + ds.length ≤ N) (hs : st.length + D ≤ 40) (hr : q_run c N lt (p + ds.length) (s1 ++ st) x) : q_run c N lt p (s0 ++ st) x := by
  obtain ⟨fu, hf⟩ := hr
  exact ⟨fu + ds.length, by rw [h c N p fu st hc hN hs]; exact hf⟩
/-- what a clause's code does, from p on; v: whether it holds, w: its sum -/
def q_cx (lt : Nat → Int) (cs c : List Int) (v w : q_LV) : Prop := ∃ d, c = cs ++ d ∧ ∀ (cc : Nat → Int) (N : Nat), (∀ x, x < d.length → cc (cs.length + x) = d.getD x 0) → cs.length + d.length ≤ N → (¬ v lt = 0 → q_run cc N lt cs.length [] (w lt)) ∧ (v lt = 0 → ∀ x, q_run cc N lt (cs.length + d.length) [] x → q_run cc N lt cs.length [] x)
theorem q_set_app (a d : List Int) (x y : Int) : (a ++ [x] ++ d).set a.length y = a ++ [y] ++ d := by
  induction a with
  | nil => rfl
  | cons u a ih => simp only [List.cons_append, List.length_cons, List.set_cons_succ, List.cons.injEq, true_and] at ih ⊢; exact ih
theorem q_case_inv {b : Nat → Int} {n f j : Nat} {c0 : List Int} {v : q_LV} {j' : Nat} {c' : List Int} {v' w' : q_LV} (h : q_case b n f j c0 v = some (.inr (j', c', v', w'))) (hj : j ≤ n) : v' = v ∧ j < j' ∧ j' ≤ n ∧ ∃ d, q_p b n f 3 0 (q_s b n (j + 1)) (c0 ++ [100000]) q_z = some (.inr (j', c0 ++ [100000] ++ d, w')) ∧ c' = c0 ++ ([100000 + (((c0 ++ [100000] ++ d).length : Int) + 1)] ++ d ++ [20]) ∧ d.length + (j + 1) ≤ j' := by
  unfold q_case at h
  by_cases k : q_tk b n j = 63
  · rw [if_pos k] at h
    obtain ⟨j1, c1, w1, e1, e2⟩ := q_bc_ok h
    obtain ⟨a1, a2, a3⟩ := q_s1 (b := b) (n := n) (i := j) (by omega)
    obtain ⟨p1, p2, ⟨d, rfl⟩, p4, p5⟩ := q_p_pk _ _ _ _ _ _ _ _ _ _ _ e1 a3
    cases e2
    refine ⟨rfl, by omega, p2, d, e1, ?_, ?_⟩
    · rw [q_set_app]; simp [List.append_assoc]
    · rw [List.length_append] at p4; omega
  · rw [if_neg k] at h; cases h
theorem q_cb_inv {b : Nat → Int} {n f j : Nat} {cs : List Int} {j' : Nat} {c' : List Int} {v w : q_LV} (h : q_cb b n f j cs = some (.inr (j', c', v, w))) (hj : j ≤ n) (P : Prop) (h1 : ∀ d, q_p b n f 3 0 j cs q_z = some (.inr (j', cs ++ d, w)) → v = q_one → c' = cs ++ d ++ [20] → j < j' → j' ≤ n → d.length + j ≤ j' → P)
    (h2 : ∀ (j4 : Nat) (d1 : List Int), (∀ lt, (∀ x, x < 6 → q_m6 (lt x)) → q_bo (v lt) ∧ q_seg d1 lt 18 [] [v lt]) → j < j4 → j4 ≤ n → d1.length + j ≤ j4 → ((∀ z ∈ cs, q_cr z) → ∀ z ∈ cs ++ d1, q_cr z) → q_case b n f j4 (cs ++ d1) v = some (.inr (j', c', v, w)) → P) : P := by
  unfold q_cb at h
  by_cases k : q_tk b n j = 33 ∨ q_tk b n j = 40
  · rw [if_pos k] at h
    obtain ⟨j1, c1, w1, e1, e2⟩ := q_bc_ok h
    obtain ⟨p1, p2, ⟨d, rfl⟩, p4, p5⟩ := q_p_pk _ _ _ _ _ _ _ _ _ _ _ e1 hj
    obtain ⟨rfl, -⟩ := q_case_inv e2 p2
    rw [List.length_append] at p4
    refine h2 j1 d (fun lt hlt => ?_) (p5 (by omega)) p2 (by omega) (fun hc => q_p_cr _ _ _ _ _ _ _ _ _ _ _ e1 hc) e2
    obtain ⟨⟨o1, o2⟩, d', e, s0, hs, g⟩ := q_p_ex _ _ lt hlt _ _ _ _ _ _ _ _ _ e1 (by decide) ⟨by omega, by omega⟩
    have := List.append_cancel_left e
    subst this
    rcases hs with q | q
    · exact absurd q.1 (by unfold q_lpt; omega)
    · rw [q.2] at g; exact ⟨o2 (by decide), g⟩
  · rw [if_neg k] at h
    obtain ⟨j1, c1, w1, e1, e2⟩ := q_bc_ok h
    obtain ⟨p1, p2, ⟨d, rfl⟩, p4, p5⟩ := q_p_pk _ _ _ _ _ _ _ _ _ _ _ e1 hj
    rw [List.length_append] at p4
    have p6 := p5 (by omega)
    by_cases k2 : q_cs (q_tk b n j1) = -1
    · rw [if_pos k2] at e2
      cases e2
      exact h1 d e1 rfl rfl p6 p2 (by omega)
    · rw [if_neg k2] at e2
      obtain ⟨j2, c2, w2, e3, e4⟩ := q_bc_ok e2
      obtain ⟨r1, r2, ⟨d2, rfl⟩, r4, r5⟩ := q_p_pk _ _ _ _ _ _ _ _ _ _ _ e3 p2
      obtain ⟨j3, c3, w3, e5, e6⟩ := q_bc_ok e4
      obtain ⟨s1, s2, ⟨d3, rfl⟩, s4, s5⟩ := q_p_pk _ _ _ _ _ _ _ _ _ _ _ e5 r2
      obtain ⟨j4, c4, w4, e7, e8⟩ := q_bc_ok e6
      obtain ⟨t1, t2, ⟨d4, rfl⟩, t4, t5⟩ := q_p_pk _ _ _ _ _ _ _ _ _ _ _ e7 s2
      obtain ⟨rfl, -⟩ := q_case_inv e8 t2
      simp only [List.length_append] at r4 s4 t4
      have ea : cs ++ d ++ d2 ++ d3 ++ d4 = cs ++ (d ++ d2 ++ d3 ++ d4) := by simp [List.append_assoc]
      refine h2 j4 (d ++ d2 ++ d3 ++ d4) (fun lt hlt => ?_) (by omega) t2 (by simp only [List.length_append]; omega) (fun hc => ?_) (by rw [← ea]; exact e8)
      · obtain ⟨⟨o1, -⟩, d', e, s0, hs, g⟩ := q_p_ex _ _ lt hlt _ _ _ _ _ _ _ _ _ e1 (by decide) ⟨by omega, by omega⟩
        have := List.append_cancel_left e
        subst this
        obtain ⟨⟨-, o2⟩, d', e, s2, hs2, g2⟩ := q_p_ex _ _ lt hlt _ _ _ _ _ _ _ _ _ e3 (by decide) ⟨fun _ => o1, by omega⟩
        have := List.append_cancel_left e
        subst this
        obtain ⟨⟨-, o3⟩, d', e, s3, hs3, g3⟩ := q_p_ex _ _ lt hlt _ _ _ _ _ _ _ _ _ e5 (by decide) ⟨by omega, fun _ => o2 (by decide)⟩
        have := List.append_cancel_left e
        subst this
        obtain ⟨⟨-, o4⟩, d', e, s4, hs4, g4⟩ := q_p_ex _ _ lt hlt _ _ _ _ _ _ _ _ _ e7 (by decide) ⟨by omega, fun _ => o3 (by decide)⟩
        have := List.append_cancel_left e
        subst this
        have nl : ∀ {t : Nat} {s : List Int} {z : Int}, (t = 6 ∨ t = 8 ∨ t = 10) → (q_lpt t ∧ s = [z]) ∨ (¬ q_lpt t ∧ s = []) → s = [z] := by
          intro t s z ht hq
          rcases hq with q | q
          · exact q.2
          · exact absurd (by unfold q_lpt; omega) q.1
        rw [nl (by omega) hs2] at g2
        rw [nl (by omega) hs3] at g3
        rw [nl (by omega) hs4] at g4
        rcases hs with q | q
        · exact absurd q.1 (by unfold q_lpt; omega)
        · rw [q.2] at g
          exact ⟨o4 (by decide), q_seg_app (q_seg_app (q_seg_app (q_seg_le g (by decide)) (q_seg_le g2 (by decide))) (q_seg_le g3 (by decide))) (q_seg_le g4 (by decide))⟩
      · rw [← ea]
        exact q_p_cr _ _ _ _ _ _ _ _ _ _ _ e7 (q_p_cr _ _ _ _ _ _ _ _ _ _ _ e5 (q_p_cr _ _ _ _ _ _ _ _ _ _ _ e3 (q_p_cr _ _ _ _ _ _ _ _ _ _ _ e1 hc)))
