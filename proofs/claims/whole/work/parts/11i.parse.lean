/-! The reader of laws, pure: a text's bytes b, its length n; tags 0 atom, 1 term, 2 its loop, 3 sum, 4 its loop, 5 unit, 6 comparison, 7 truth, 8 its loop, 9 condition, 10 its loop -/
abbrev q_LV : Type := (Nat → Int) → Int
abbrev q_PR : Type := Option (Nat ⊕ (Nat × List Int × q_LV))
def q_bd (r : q_PR) (K : Nat → List Int → q_LV → q_PR) : q_PR := match r with
  | none => none
  | some (.inl e) => some (.inl e)
  | some (.inr x) => K x.1 x.2.1 x.2.2
def q_z : q_LV := fun _ => 0
def q_nt (v : q_LV) : q_LV := fun lt => if v lt = 0 then 1 else 0
def q_j (o : Int) (v w : q_LV) : q_LV := fun lt => q_jn o (v lt) (w lt)
/-- the comparison's sign as the class keeps it; -1: none -/
def q_cs (z : Int) : Int := if z = 61 then 14 else if z = 60 then 15 else if z = 62 then 16 else -1
def q_p (b : Nat → Int) (n : Nat) : Nat → Nat → Nat → Nat → List Int → q_LV → q_PR
  | 0, _, _, _, _, _ => none
  | f + 1, tag, dp, i, cs, v =>
    if tag = 0 then
      (if q_tk b n i = 91 then (if dp = 6 then some (.inl i) else q_bd (q_p b n f 3 (dp + 1) (q_s b n (i + 1)) cs q_z) fun j c w => if q_tk b n j = 93 then some (.inr (q_s b n (j + 1), c, w)) else some (.inl j))
      else if 0 ≤ q_li (q_tk b n i) then some (.inr (q_s b n (i + 1), cs ++ [q_li (q_tk b n i)], fun lt => lt (q_li (q_tk b n i)).toNat))
      else if q_dg b n 5 i = 0 then some (.inl i)
      else if q_dg b n 5 i = 5 then some (.inl (i + 4))
      else some (.inr (q_s b n (i + q_dg b n 5 i), cs ++ [100 + q_nv b i (q_dg b n 5 i)], fun _ => q_nv b i (q_dg b n 5 i))))
    else if tag = 1 then q_bd (q_p b n f 0 dp i cs q_z) fun j c w => q_p b n f 2 dp j c w
    else if tag = 2 then
      (if q_tk b n i = 42 then q_bd (q_p b n f 0 dp (q_s b n (i + 1)) cs q_z) fun j c w => q_p b n f 2 dp j (c ++ [12]) (q_j 12 v w)
      else if q_tk b n i = 47 then q_bd (q_p b n f 0 dp (q_s b n (i + 1)) cs q_z) fun j c w => q_p b n f 2 dp j (c ++ [13]) (q_j 13 v w)
      else some (.inr (i, cs, v)))
    else if tag = 3 then q_bd (q_p b n f 1 dp i cs q_z) fun j c w => q_p b n f 4 dp j c w
    else if tag = 4 then
      (if q_tk b n i = 43 then q_bd (q_p b n f 1 dp (q_s b n (i + 1)) cs q_z) fun j c w => q_p b n f 4 dp j (c ++ [10]) (q_j 10 v w)
      else if q_tk b n i = 45 then q_bd (q_p b n f 1 dp (q_s b n (i + 1)) cs q_z) fun j c w => q_p b n f 4 dp j (c ++ [11]) (q_j 11 v w)
      else some (.inr (i, cs, v)))
    else if tag = 5 then
      (if q_tk b n i = 33 then (if dp = 6 then some (.inl i) else q_bd (q_p b n f 5 (dp + 1) (q_s b n (i + 1)) cs q_z) fun j c w => some (.inr (j, c ++ [19], q_nt w)))
      else if q_tk b n i = 40 then (if dp = 6 then some (.inl i) else q_bd (q_p b n f 9 (dp + 1) (q_s b n (i + 1)) cs q_z) fun j c w => if q_tk b n j = 41 then some (.inr (q_s b n (j + 1), c, w)) else some (.inl j))
      else q_bd (q_p b n f 3 dp i cs q_z) fun j c w => q_p b n f 6 dp j c w)
    else if tag = 6 then
      (if q_cs (q_tk b n i) = -1 then some (.inl i) else q_bd (q_p b n f 3 dp (q_s b n (i + 1)) cs q_z) fun j c w => some (.inr (j, c ++ [q_cs (q_tk b n i)], q_j (q_cs (q_tk b n i)) v w)))
    else if tag = 7 then q_bd (q_p b n f 5 dp i cs q_z) fun j c w => q_p b n f 8 dp j c w
    else if tag = 8 then
      (if q_tk b n i = 38 then q_bd (q_p b n f 5 dp (q_s b n (i + 1)) cs q_z) fun j c w => q_p b n f 8 dp j (c ++ [17]) (q_j 17 v w)
      else some (.inr (i, cs, v)))
    else if tag = 9 then q_bd (q_p b n f 7 dp i cs q_z) fun j c w => q_p b n f 10 dp j c w
    else if tag = 10 then
      (if q_tk b n i = 124 then q_bd (q_p b n f 7 dp (q_s b n (i + 1)) cs q_z) fun j c w => q_p b n f 10 dp j (c ++ [18]) (q_j 18 v w)
      else some (.inr (i, cs, v)))
    else none
theorem q_p0 (b : Nat → Int) (n f dp i : Nat) (cs : List Int) (v : q_LV) : q_p b n (f + 1) 0 dp i cs v = (if q_tk b n i = 91 then (if dp = 6 then some (.inl i) else q_bd (q_p b n f 3 (dp + 1) (q_s b n (i + 1)) cs q_z) fun j c w => if q_tk b n j = 93 then some (.inr (q_s b n (j + 1), c, w)) else some (.inl j))
      else if 0 ≤ q_li (q_tk b n i) then some (.inr (q_s b n (i + 1), cs ++ [q_li (q_tk b n i)], fun lt => lt (q_li (q_tk b n i)).toNat))
      else if q_dg b n 5 i = 0 then some (.inl i)
      else if q_dg b n 5 i = 5 then some (.inl (i + 4))
      else some (.inr (q_s b n (i + q_dg b n 5 i), cs ++ [100 + q_nv b i (q_dg b n 5 i)], fun _ => q_nv b i (q_dg b n 5 i)))) := by rw [q_p.eq_def]; rfl
theorem q_p1 (b : Nat → Int) (n f dp i : Nat) (cs : List Int) (v : q_LV) : q_p b n (f + 1) 1 dp i cs v = q_bd (q_p b n f 0 dp i cs q_z) fun j c w => q_p b n f 2 dp j c w := by rw [q_p.eq_def]; rfl
theorem q_p2 (b : Nat → Int) (n f dp i : Nat) (cs : List Int) (v : q_LV) : q_p b n (f + 1) 2 dp i cs v = (if q_tk b n i = 42 then q_bd (q_p b n f 0 dp (q_s b n (i + 1)) cs q_z) fun j c w => q_p b n f 2 dp j (c ++ [12]) (q_j 12 v w)
      else if q_tk b n i = 47 then q_bd (q_p b n f 0 dp (q_s b n (i + 1)) cs q_z) fun j c w => q_p b n f 2 dp j (c ++ [13]) (q_j 13 v w)
      else some (.inr (i, cs, v))) := by rw [q_p.eq_def]; rfl
theorem q_p3 (b : Nat → Int) (n f dp i : Nat) (cs : List Int) (v : q_LV) : q_p b n (f + 1) 3 dp i cs v = q_bd (q_p b n f 1 dp i cs q_z) fun j c w => q_p b n f 4 dp j c w := by rw [q_p.eq_def]; rfl
theorem q_p4 (b : Nat → Int) (n f dp i : Nat) (cs : List Int) (v : q_LV) : q_p b n (f + 1) 4 dp i cs v = (if q_tk b n i = 43 then q_bd (q_p b n f 1 dp (q_s b n (i + 1)) cs q_z) fun j c w => q_p b n f 4 dp j (c ++ [10]) (q_j 10 v w)
      else if q_tk b n i = 45 then q_bd (q_p b n f 1 dp (q_s b n (i + 1)) cs q_z) fun j c w => q_p b n f 4 dp j (c ++ [11]) (q_j 11 v w)
      else some (.inr (i, cs, v))) := by rw [q_p.eq_def]; rfl
theorem q_p5 (b : Nat → Int) (n f dp i : Nat) (cs : List Int) (v : q_LV) : q_p b n (f + 1) 5 dp i cs v = (if q_tk b n i = 33 then (if dp = 6 then some (.inl i) else q_bd (q_p b n f 5 (dp + 1) (q_s b n (i + 1)) cs q_z) fun j c w => some (.inr (j, c ++ [19], q_nt w)))
      else if q_tk b n i = 40 then (if dp = 6 then some (.inl i) else q_bd (q_p b n f 9 (dp + 1) (q_s b n (i + 1)) cs q_z) fun j c w => if q_tk b n j = 41 then some (.inr (q_s b n (j + 1), c, w)) else some (.inl j))
      else q_bd (q_p b n f 3 dp i cs q_z) fun j c w => q_p b n f 6 dp j c w) := by rw [q_p.eq_def]; rfl
theorem q_p6 (b : Nat → Int) (n f dp i : Nat) (cs : List Int) (v : q_LV) : q_p b n (f + 1) 6 dp i cs v = (if q_cs (q_tk b n i) = -1 then some (.inl i) else q_bd (q_p b n f 3 dp (q_s b n (i + 1)) cs q_z) fun j c w => some (.inr (j, c ++ [q_cs (q_tk b n i)], q_j (q_cs (q_tk b n i)) v w))) := by rw [q_p.eq_def]; rfl
theorem q_p7 (b : Nat → Int) (n f dp i : Nat) (cs : List Int) (v : q_LV) : q_p b n (f + 1) 7 dp i cs v = q_bd (q_p b n f 5 dp i cs q_z) fun j c w => q_p b n f 8 dp j c w := by rw [q_p.eq_def]; rfl
theorem q_p8 (b : Nat → Int) (n f dp i : Nat) (cs : List Int) (v : q_LV) : q_p b n (f + 1) 8 dp i cs v = (if q_tk b n i = 38 then q_bd (q_p b n f 5 dp (q_s b n (i + 1)) cs q_z) fun j c w => q_p b n f 8 dp j (c ++ [17]) (q_j 17 v w)
      else some (.inr (i, cs, v))) := by rw [q_p.eq_def]; rfl
theorem q_p9 (b : Nat → Int) (n f dp i : Nat) (cs : List Int) (v : q_LV) : q_p b n (f + 1) 9 dp i cs v = q_bd (q_p b n f 7 dp i cs q_z) fun j c w => q_p b n f 10 dp j c w := by rw [q_p.eq_def]; rfl
theorem q_p10 (b : Nat → Int) (n f dp i : Nat) (cs : List Int) (v : q_LV) : q_p b n (f + 1) 10 dp i cs v = (if q_tk b n i = 124 then q_bd (q_p b n f 7 dp (q_s b n (i + 1)) cs q_z) fun j c w => q_p b n f 10 dp j (c ++ [18]) (q_j 18 v w)
      else some (.inr (i, cs, v))) := by rw [q_p.eq_def]; rfl
theorem q_bd_ok {r : q_PR} {K : Nat → List Int → q_LV → q_PR} {x : Nat × List Int × q_LV} (h : q_bd r K = some (.inr x)) : ∃ j c w, r = some (.inr (j, c, w)) ∧ K j c w = some (.inr x) := by
  match r, h with
  | none, h => cases h
  | some (.inl e), h => cases h
  | some (.inr (j, c, w)), h => exact ⟨j, c, w, rfl, h⟩
theorem q_bd_er {r : q_PR} {K : Nat → List Int → q_LV → q_PR} {e : Nat} (h : q_bd r K = some (.inl e)) : r = some (.inl e) ∨ ∃ j c w, r = some (.inr (j, c, w)) ∧ K j c w = some (.inl e) := by
  match r, h with
  | none, h => cases h
  | some (.inl e'), h => cases h; exact Or.inl rfl
  | some (.inr (j, c, w)), h => exact Or.inr ⟨j, c, w, rfl, h⟩
theorem q_bd_tot {r : q_PR} {K : Nat → List Int → q_LV → q_PR} (h : r ≠ none) (hK : ∀ j c w, r = some (.inr (j, c, w)) → K j c w ≠ none) : q_bd r K ≠ none := by
  match r, h with
  | none, h => exact absurd rfl h
  | some (.inl e'), h => intro q; cases q
  | some (.inr (j, c, w)), h => exact hK j c w rfl
/-- what is read is behind; the code grows by no more than that -/
def q_pk (n tag i j : Nat) (cs c : List Int) : Prop := i ≤ j ∧ j ≤ n ∧ (∃ d, c = cs ++ d) ∧ c.length + i ≤ cs.length + j ∧ ((tag = 0 ∨ tag = 1 ∨ tag = 3 ∨ tag = 5 ∨ tag = 6 ∨ tag = 7 ∨ tag = 9) → i < j)
theorem q_li_nn {z : Int} (h : 0 ≤ q_li z) : 0 ≤ z ∧ q_li z < 6 := by
  rcases q_ixl_rg (q_strs 5101) 0 z (by decide) with ⟨q1, q2⟩ | ⟨q1, q2, q3⟩
  · have : q_li z = -1 := q1
    omega
  · refine ⟨?_, q2⟩
    have q4 : z ∈ [109, 104, 102, 100, 107, 110] := q3
    simp at q4
    omega
theorem q_cs_nn {z : Int} (h : ¬ q_cs z = -1) : 0 ≤ z := by
  unfold q_cs at h
  by_cases h1 : z = 61
  · omega
  · by_cases h2 : z = 60
    · omega
    · by_cases h3 : z = 62
      · omega
      · rw [if_neg h1, if_neg h2, if_neg h3] at h; exact absurd rfl h
theorem q_s1 {b : Nat → Int} {n i : Nat} (h : 0 ≤ q_tk b n i) : i < n ∧ i + 1 ≤ q_s b n (i + 1) ∧ q_s b n (i + 1) ≤ n := by
  have h1 := q_tk_lt h
  exact ⟨h1, q_s_ge b n (i + 1), q_s_le (by omega)⟩
theorem q_ext_app {cs c : List Int} (h : ∃ d, c = cs ++ d) (x : Int) : ∃ d, c ++ [x] = cs ++ d := by
  obtain ⟨d, rfl⟩ := h
  exact ⟨d ++ [x], List.append_assoc _ _ _⟩
theorem q_ext_tr {cs c c' : List Int} (h : ∃ d, c = cs ++ d) (h' : ∃ d, c' = c ++ d) : ∃ d, c' = cs ++ d := by
  obtain ⟨d, rfl⟩ := h
  obtain ⟨e, rfl⟩ := h'
  exact ⟨d ++ e, List.append_assoc _ _ _⟩
theorem q_p_pk (b : Nat → Int) (n : Nat) : ∀ (f tag dp i : Nat) (cs : List Int) (v : q_LV) (j : Nat) (c : List Int) (w : q_LV), q_p b n f tag dp i cs v = some (.inr (j, c, w)) → i ≤ n → q_pk n tag i j cs c
  | 0, tag, dp, i, cs, v, j, c, w, h, hi => by cases h
  | f + 1, tag, dp, i, cs, v, j, c, w, h, hi => by
    have ih := q_p_pk b n f
    -- a sign, then a piece, then a loop
    have lp : ∀ (z o : Int) (t T : Nat) (u : q_LV), q_tk b n i = z → 0 ≤ z → q_bd (q_p b n f t dp (q_s b n (i + 1)) cs q_z) (fun j c w => q_p b n f T dp j (c ++ [o]) (q_j o v w)) = some (.inr (j, c, w)) → (T = 2 ∨ T = 4 ∨ T = 8 ∨ T = 10) → (t = 0 ∨ t = 1 ∨ t = 5 ∨ t = 7) → q_pk n T i j cs c := by
      intro z o t T u hz hz0 hh hT ht
      obtain ⟨j1, c1, w1, e1, e2⟩ := q_bd_ok hh
      obtain ⟨a1, a2, a3⟩ := q_s1 (b := b) (n := n) (i := i) (by omega)
      obtain ⟨p1, p2, p3, p4, p5⟩ := ih _ _ _ _ _ _ _ _ e1 a3
      obtain ⟨r1, r2, r3, r4, r5⟩ := ih _ _ _ _ _ _ _ _ e2 p2
      rw [List.length_append, List.length_singleton] at r4
      have := p5 (by omega)
      exact ⟨by omega, r2, q_ext_tr (q_ext_app p3 o) r3, by omega, fun q => by omega⟩
    have sq : ∀ (t T : Nat), q_bd (q_p b n f t dp i cs q_z) (fun j c w => q_p b n f T dp j c w) = some (.inr (j, c, w)) → (t = 0 ∨ t = 1 ∨ t = 3 ∨ t = 5 ∨ t = 7) → q_pk n t i j cs c := by
      intro t T hh ht
      obtain ⟨j1, c1, w1, e1, e2⟩ := q_bd_ok hh
      obtain ⟨p1, p2, p3, p4, p5⟩ := ih _ _ _ _ _ _ _ _ e1 hi
      obtain ⟨r1, r2, r3, r4, r5⟩ := ih _ _ _ _ _ _ _ _ e2 p2
      have := p5 (by omega)
      exact ⟨by omega, r2, q_ext_tr p3 r3, by omega, fun q => by omega⟩
    have stay : ∀ T : Nat, (T = 2 ∨ T = 4 ∨ T = 8 ∨ T = 10) → (some (.inr (i, cs, v)) : q_PR) = some (.inr (j, c, w)) → q_pk n T i j cs c := by
      intro T hT hh
      cases hh
      exact ⟨Nat.le_refl _, hi, ⟨[], (List.append_nil _).symm⟩, Nat.le_refl _, fun q => by omega⟩
    have cg : ∀ t : Nat, q_pk n t i j cs c → (t = 0 ∨ t = 1 ∨ t = 3 ∨ t = 5 ∨ t = 7) → ∀ T, q_pk n T i j cs c := fun t hp ht T => ⟨hp.1, hp.2.1, hp.2.2.1, hp.2.2.2.1, fun _ => hp.2.2.2.2 (by omega)⟩
    by_cases h0 : tag = 0
    · subst h0
      rw [q_p0] at h
      by_cases k1 : q_tk b n i = 91
      · rw [if_pos k1] at h
        by_cases k2 : dp = 6
        · rw [if_pos k2] at h; cases h
        · rw [if_neg k2] at h
          obtain ⟨j1, c1, w1, e1, e2⟩ := q_bd_ok h
          obtain ⟨a1, a2, a3⟩ := q_s1 (b := b) (n := n) (i := i) (by omega)
          obtain ⟨p1, p2, p3, p4, p5⟩ := ih _ _ _ _ _ _ _ _ e1 a3
          by_cases k3 : q_tk b n j1 = 93
          · rw [if_pos k3] at e2
            cases e2
            obtain ⟨b1, b2, b3⟩ := q_s1 (b := b) (n := n) (i := j1) (by omega)
            exact ⟨by omega, b3, p3, by omega, fun _ => by omega⟩
          · rw [if_neg k3] at e2; cases e2
      · rw [if_neg k1] at h
        by_cases k2 : 0 ≤ q_li (q_tk b n i)
        · rw [if_pos k2] at h
          cases h
          obtain ⟨b1, b2, b3⟩ := q_s1 (b := b) (n := n) (i := i) (q_li_nn k2).1
          exact ⟨by omega, b3, ⟨_, rfl⟩, by rw [List.length_append, List.length_singleton]; omega, fun _ => by omega⟩
        · rw [if_neg k2] at h
          by_cases k3 : q_dg b n 5 i = 0
          · rw [if_pos k3] at h; cases h
          · rw [if_neg k3] at h
            by_cases k4 : q_dg b n 5 i = 5
            · rw [if_pos k4] at h; cases h
            · rw [if_neg k4] at h
              cases h
              have d1 := q_dg_n b n 5 i hi
              have d2 := q_s_ge b n (i + q_dg b n 5 i)
              have d3 := q_s_le (b := b) d1
              exact ⟨by omega, d3, ⟨_, rfl⟩, by rw [List.length_append, List.length_singleton]; omega, fun _ => by omega⟩
    by_cases h1 : tag = 1
    · subst h1; rw [q_p1] at h; exact cg 0 (sq 0 2 h (by omega)) (by omega) _
    by_cases h2 : tag = 2
    · subst h2
      rw [q_p2] at h
      by_cases k1 : q_tk b n i = 42
      · rw [if_pos k1] at h; exact lp 42 12 0 2 v k1 (by decide) h (by omega) (by omega)
      · rw [if_neg k1] at h
        by_cases k2 : q_tk b n i = 47
        · rw [if_pos k2] at h; exact lp 47 13 0 2 v k2 (by decide) h (by omega) (by omega)
        · rw [if_neg k2] at h; exact stay 2 (by omega) h
    by_cases h3 : tag = 3
    · subst h3; rw [q_p3] at h; exact cg 1 (sq 1 4 h (by omega)) (by omega) _
    by_cases h4 : tag = 4
    · subst h4
      rw [q_p4] at h
      by_cases k1 : q_tk b n i = 43
      · rw [if_pos k1] at h; exact lp 43 10 1 4 v k1 (by decide) h (by omega) (by omega)
      · rw [if_neg k1] at h
        by_cases k2 : q_tk b n i = 45
        · rw [if_pos k2] at h; exact lp 45 11 1 4 v k2 (by decide) h (by omega) (by omega)
        · rw [if_neg k2] at h; exact stay 4 (by omega) h
    by_cases h5 : tag = 5
    · subst h5
      rw [q_p5] at h
      by_cases k1 : q_tk b n i = 33
      · rw [if_pos k1] at h
        by_cases k2 : dp = 6
        · rw [if_pos k2] at h; cases h
        · rw [if_neg k2] at h
          obtain ⟨j1, c1, w1, e1, e2⟩ := q_bd_ok h
          obtain ⟨a1, a2, a3⟩ := q_s1 (b := b) (n := n) (i := i) (by omega)
          obtain ⟨p1, p2, p3, p4, p5⟩ := ih _ _ _ _ _ _ _ _ e1 a3
          cases e2
          exact ⟨by omega, p2, q_ext_app p3 19, by rw [List.length_append, List.length_singleton]; omega, fun _ => by omega⟩
      · rw [if_neg k1] at h
        by_cases k2 : q_tk b n i = 40
        · rw [if_pos k2] at h
          by_cases k3 : dp = 6
          · rw [if_pos k3] at h; cases h
          · rw [if_neg k3] at h
            obtain ⟨j1, c1, w1, e1, e2⟩ := q_bd_ok h
            obtain ⟨a1, a2, a3⟩ := q_s1 (b := b) (n := n) (i := i) (by omega)
            obtain ⟨p1, p2, p3, p4, p5⟩ := ih _ _ _ _ _ _ _ _ e1 a3
            by_cases k4 : q_tk b n j1 = 41
            · rw [if_pos k4] at e2
              cases e2
              obtain ⟨b1, b2, b3⟩ := q_s1 (b := b) (n := n) (i := j1) (by omega)
              exact ⟨by omega, b3, p3, by omega, fun _ => by omega⟩
            · rw [if_neg k4] at e2; cases e2
        · rw [if_neg k2] at h
          exact cg 3 (sq 3 6 h (by omega)) (by omega) _
    by_cases h6 : tag = 6
    · subst h6
      rw [q_p6] at h
      by_cases k1 : q_cs (q_tk b n i) = -1
      · rw [if_pos k1] at h; cases h
      · rw [if_neg k1] at h
        obtain ⟨j1, c1, w1, e1, e2⟩ := q_bd_ok h
        obtain ⟨a1, a2, a3⟩ := q_s1 (b := b) (n := n) (i := i) (q_cs_nn k1)
        obtain ⟨p1, p2, p3, p4, p5⟩ := ih _ _ _ _ _ _ _ _ e1 a3
        cases e2
        exact ⟨by omega, p2, q_ext_app p3 _, by rw [List.length_append, List.length_singleton]; omega, fun _ => by omega⟩
    by_cases h7 : tag = 7
    · subst h7; rw [q_p7] at h; exact cg 5 (sq 5 8 h (by omega)) (by omega) _
    by_cases h8 : tag = 8
    · subst h8
      rw [q_p8] at h
      by_cases k1 : q_tk b n i = 38
      · rw [if_pos k1] at h; exact lp 38 17 5 8 v k1 (by decide) h (by omega) (by omega)
      · rw [if_neg k1] at h; exact stay 8 (by omega) h
    by_cases h9 : tag = 9
    · subst h9; rw [q_p9] at h; exact cg 7 (sq 7 10 h (by omega)) (by omega) _
    by_cases h10 : tag = 10
    · subst h10
      rw [q_p10] at h
      by_cases k1 : q_tk b n i = 124
      · rw [if_pos k1] at h; exact lp 124 18 7 10 v k1 (by decide) h (by omega) (by omega)
      · rw [if_neg k1] at h; exact stay 10 (by omega) h
    · rw [q_p.eq_def] at h
      simp only [h0, h1, h2, h3, h4, h5, h6, h7, h8, h9, h10, if_false] at h
      cases h
