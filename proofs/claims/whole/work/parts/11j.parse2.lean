/-! The reader of laws: faults, it ends, what its code does -/
theorem q_p_er (b : Nat → Int) (n : Nat) : ∀ (f tag dp i : Nat) (cs : List Int) (v : q_LV) (e : Nat), q_p b n f tag dp i cs v = some (.inl e) → i ≤ n → i ≤ e ∧ e ≤ n
  | 0, tag, dp, i, cs, v, e, h, hi => by cases h
  | f + 1, tag, dp, i, cs, v, e, h, hi => by
    have ih := q_p_er b n f
    have pk := q_p_pk b n f
    have one : ∀ {a : Nat}, (some (.inl a) : q_PR) = some (.inl e) → a ≤ n → i ≤ a → i ≤ e ∧ e ≤ n := by
      intro a h1 h2 h3; cases h1; exact ⟨h3, h2⟩
    have nope : ∀ {x : Nat × List Int × q_LV}, (some (.inr x) : q_PR) = some (.inl e) → i ≤ e ∧ e ≤ n := by intro x h1; cases h1
    have lp : ∀ (z o : Int) (t T : Nat), q_tk b n i = z → 0 ≤ z → q_bd (q_p b n f t dp (q_s b n (i + 1)) cs q_z) (fun j c w => q_p b n f T dp j (c ++ [o]) (q_j o v w)) = some (.inl e) → i ≤ e ∧ e ≤ n := by
      intro z o t T hz hz0 hh
      obtain ⟨a1, a2, a3⟩ := q_s1 (b := b) (n := n) (i := i) (by omega)
      rcases q_bd_er hh with e1 | ⟨j1, c1, w1, e1, e2⟩
      · have := ih _ _ _ _ _ _ e1 a3; omega
      · obtain ⟨p1, p2, -⟩ := pk _ _ _ _ _ _ _ _ e1 a3
        have := ih _ _ _ _ _ _ e2 p2; omega
    have sq : ∀ (t T : Nat), q_bd (q_p b n f t dp i cs q_z) (fun j c w => q_p b n f T dp j c w) = some (.inl e) → i ≤ e ∧ e ≤ n := by
      intro t T hh
      rcases q_bd_er hh with e1 | ⟨j1, c1, w1, e1, e2⟩
      · exact ih _ _ _ _ _ _ e1 hi
      · obtain ⟨p1, p2, -⟩ := pk _ _ _ _ _ _ _ _ e1 hi
        have := ih _ _ _ _ _ _ e2 p2; omega
    have br : ∀ (t : Nat) (z : Int), 0 ≤ q_tk b n i → q_bd (q_p b n f t (dp + 1) (q_s b n (i + 1)) cs q_z) (fun j c w => if q_tk b n j = z then some (.inr (q_s b n (j + 1), c, w)) else some (.inl j)) = some (.inl e) → i ≤ e ∧ e ≤ n := by
      intro t z hz hh
      obtain ⟨a1, a2, a3⟩ := q_s1 (b := b) (n := n) (i := i) hz
      rcases q_bd_er hh with e1 | ⟨j1, c1, w1, e1, e2⟩
      · have := ih _ _ _ _ _ _ e1 a3; omega
      · obtain ⟨p1, p2, -⟩ := pk _ _ _ _ _ _ _ _ e1 a3
        by_cases q : q_tk b n j1 = z
        · rw [if_pos q] at e2; cases e2
        · rw [if_neg q] at e2; cases e2; omega
    by_cases h0 : tag = 0
    · subst h0
      rw [q_p0] at h
      by_cases k1 : q_tk b n i = 91
      · rw [if_pos k1] at h
        by_cases k2 : dp = 6
        · rw [if_pos k2] at h; exact one h hi (Nat.le_refl _)
        · rw [if_neg k2] at h; exact br 3 93 (by omega) h
      · rw [if_neg k1] at h
        by_cases k2 : 0 ≤ q_li (q_tk b n i)
        · rw [if_pos k2] at h; exact nope h
        · rw [if_neg k2] at h
          by_cases k3 : q_dg b n 5 i = 0
          · rw [if_pos k3] at h; exact one h hi (Nat.le_refl _)
          · rw [if_neg k3] at h
            by_cases k4 : q_dg b n 5 i = 5
            · rw [if_pos k4] at h
              have d1 := q_dg_n b n 5 i hi
              exact one h (by omega) (by omega)
            · rw [if_neg k4] at h; exact nope h
    by_cases h1 : tag = 1
    · subst h1; rw [q_p1] at h; exact sq 0 2 h
    by_cases h2 : tag = 2
    · subst h2
      rw [q_p2] at h
      by_cases k1 : q_tk b n i = 42
      · rw [if_pos k1] at h; exact lp 42 12 0 2 k1 (by decide) h
      · rw [if_neg k1] at h
        by_cases k2 : q_tk b n i = 47
        · rw [if_pos k2] at h; exact lp 47 13 0 2 k2 (by decide) h
        · rw [if_neg k2] at h; exact nope h
    by_cases h3 : tag = 3
    · subst h3; rw [q_p3] at h; exact sq 1 4 h
    by_cases h4 : tag = 4
    · subst h4
      rw [q_p4] at h
      by_cases k1 : q_tk b n i = 43
      · rw [if_pos k1] at h; exact lp 43 10 1 4 k1 (by decide) h
      · rw [if_neg k1] at h
        by_cases k2 : q_tk b n i = 45
        · rw [if_pos k2] at h; exact lp 45 11 1 4 k2 (by decide) h
        · rw [if_neg k2] at h; exact nope h
    by_cases h5 : tag = 5
    · subst h5
      rw [q_p5] at h
      by_cases k1 : q_tk b n i = 33
      · rw [if_pos k1] at h
        by_cases k2 : dp = 6
        · rw [if_pos k2] at h; exact one h hi (Nat.le_refl _)
        · rw [if_neg k2] at h
          obtain ⟨a1, a2, a3⟩ := q_s1 (b := b) (n := n) (i := i) (by omega)
          rcases q_bd_er h with e1 | ⟨j1, c1, w1, e1, e2⟩
          · have := ih _ _ _ _ _ _ e1 a3; omega
          · cases e2
      · rw [if_neg k1] at h
        by_cases k2 : q_tk b n i = 40
        · rw [if_pos k2] at h
          by_cases k3 : dp = 6
          · rw [if_pos k3] at h; exact one h hi (Nat.le_refl _)
          · rw [if_neg k3] at h; exact br 9 41 (by omega) h
        · rw [if_neg k2] at h; exact sq 3 6 h
    by_cases h6 : tag = 6
    · subst h6
      rw [q_p6] at h
      by_cases k1 : q_cs (q_tk b n i) = -1
      · rw [if_pos k1] at h; exact one h hi (Nat.le_refl _)
      · rw [if_neg k1] at h
        obtain ⟨a1, a2, a3⟩ := q_s1 (b := b) (n := n) (i := i) (q_cs_nn k1)
        rcases q_bd_er h with e1 | ⟨j1, c1, w1, e1, e2⟩
        · have := ih _ _ _ _ _ _ e1 a3; omega
        · cases e2
    by_cases h7 : tag = 7
    · subst h7; rw [q_p7] at h; exact sq 5 8 h
    by_cases h8 : tag = 8
    · subst h8
      rw [q_p8] at h
      by_cases k1 : q_tk b n i = 38
      · rw [if_pos k1] at h; exact lp 38 17 5 8 k1 (by decide) h
      · rw [if_neg k1] at h; exact nope h
    by_cases h9 : tag = 9
    · subst h9; rw [q_p9] at h; exact sq 7 10 h
    by_cases h10 : tag = 10
    · subst h10
      rw [q_p10] at h
      by_cases k1 : q_tk b n i = 124
      · rw [if_pos k1] at h; exact lp 124 18 7 10 k1 (by decide) h
      · rw [if_neg k1] at h; exact nope h
    · rw [q_p.eq_def] at h
      simp only [h0, h1, h2, h3, h4, h5, h6, h7, h8, h9, h10, if_false] at h
      cases h
def q_rk (tag : Nat) : Nat := if tag = 1 then 1 else if tag = 3 then 2 else if tag = 5 then 3 else if tag = 7 then 4 else if tag = 9 then 5 else 0
theorem q_p_tot (b : Nat → Int) (n : Nat) : ∀ (f tag dp i : Nat) (cs : List Int) (v : q_LV), 6 * (n - i) + q_rk tag < f → i ≤ n → tag ≤ 10 → q_p b n f tag dp i cs v ≠ none
  | 0, tag, dp, i, cs, v, hf, hi, ht => by omega
  | f + 1, tag, dp, i, cs, v, hf, hi, ht => by
    have ih := q_p_tot b n f
    have pk := q_p_pk b n f
    have sm : ∀ {x : Nat ⊕ (Nat × List Int × q_LV)}, (some x : q_PR) ≠ none := by intro x q; cases q
    have lp : ∀ (o : Int) (t T : Nat), 0 ≤ q_tk b n i → (t = 0 ∨ t = 1 ∨ t = 5 ∨ t = 7) → (T = 2 ∨ T = 4 ∨ T = 8 ∨ T = 10) → q_rk tag = 0 → q_bd (q_p b n f t dp (q_s b n (i + 1)) cs q_z) (fun j c w => q_p b n f T dp j (c ++ [o]) (q_j o v w)) ≠ none := by
      intro o t T hz ht hT hr
      obtain ⟨a1, a2, a3⟩ := q_s1 (b := b) (n := n) (i := i) hz
      have r1 : q_rk t ≤ 4 := by rcases ht with rfl | rfl | rfl | rfl <;> decide
      have r2 : q_rk T = 0 := by rcases hT with rfl | rfl | rfl | rfl <;> decide
      refine q_bd_tot (ih _ _ _ _ _ (by omega) a3 (by omega)) (fun j c w e => ?_)
      obtain ⟨p1, p2, p3, p4, p5⟩ := pk _ _ _ _ _ _ _ _ e a3
      exact ih _ _ _ _ _ (by omega) p2 (by omega)
    have sq : ∀ (t T : Nat), (t = 0 ∨ t = 1 ∨ t = 3 ∨ t = 5 ∨ t = 7) → (T = 2 ∨ T = 4 ∨ T = 6 ∨ T = 8 ∨ T = 10) → q_rk t < q_rk tag → q_bd (q_p b n f t dp i cs q_z) (fun j c w => q_p b n f T dp j c w) ≠ none := by
      intro t T ht hT hr
      have r2 : q_rk T = 0 := by rcases hT with rfl | rfl | rfl | rfl | rfl <;> decide
      refine q_bd_tot (ih _ _ _ _ _ (by omega) hi (by omega)) (fun j c w e => ?_)
      obtain ⟨p1, p2, p3, p4, p5⟩ := pk _ _ _ _ _ _ _ _ e hi
      have := p5 (by omega)
      exact ih _ _ _ _ _ (by omega) p2 (by omega)
    have br : ∀ (t : Nat) (z : Int), 0 ≤ q_tk b n i → t ≤ 10 → q_bd (q_p b n f t (dp + 1) (q_s b n (i + 1)) cs q_z) (fun j c w => if q_tk b n j = z then some (.inr (q_s b n (j + 1), c, w)) else some (.inl j)) ≠ none := by
      intro t z hz ht
      obtain ⟨a1, a2, a3⟩ := q_s1 (b := b) (n := n) (i := i) hz
      have r1 : q_rk t ≤ 5 := by unfold q_rk; repeat' split
                                 all_goals omega
      refine q_bd_tot (ih _ _ _ _ _ (by omega) a3 ht) (fun j c w e => ?_)
      split <;> exact sm
    by_cases h0 : tag = 0
    · subst h0
      rw [q_p0]
      by_cases k1 : q_tk b n i = 91
      · rw [if_pos k1]
        by_cases k2 : dp = 6
        · rw [if_pos k2]; exact sm
        · rw [if_neg k2]; exact br 3 93 (by omega) (by decide)
      · rw [if_neg k1]
        split
        · exact sm
        · split
          · exact sm
          · split <;> exact sm
    by_cases h1 : tag = 1
    · subst h1; rw [q_p1]; exact sq 0 2 (by omega) (by omega) (by decide)
    by_cases h2 : tag = 2
    · subst h2
      rw [q_p2]
      by_cases k1 : q_tk b n i = 42
      · rw [if_pos k1]; exact lp 12 0 2 (by omega) (by omega) (by omega) rfl
      · rw [if_neg k1]
        by_cases k2 : q_tk b n i = 47
        · rw [if_pos k2]; exact lp 13 0 2 (by omega) (by omega) (by omega) rfl
        · rw [if_neg k2]; exact sm
    by_cases h3 : tag = 3
    · subst h3; rw [q_p3]; exact sq 1 4 (by omega) (by omega) (by decide)
    by_cases h4 : tag = 4
    · subst h4
      rw [q_p4]
      by_cases k1 : q_tk b n i = 43
      · rw [if_pos k1]; exact lp 10 1 4 (by omega) (by omega) (by omega) rfl
      · rw [if_neg k1]
        by_cases k2 : q_tk b n i = 45
        · rw [if_pos k2]; exact lp 11 1 4 (by omega) (by omega) (by omega) rfl
        · rw [if_neg k2]; exact sm
    by_cases h5 : tag = 5
    · subst h5
      rw [q_p5]
      by_cases k1 : q_tk b n i = 33
      · rw [if_pos k1]
        by_cases k2 : dp = 6
        · rw [if_pos k2]; exact sm
        · rw [if_neg k2]
          obtain ⟨a1, a2, a3⟩ := q_s1 (b := b) (n := n) (i := i) (by omega)
          have : q_rk 5 = 3 := rfl
          exact q_bd_tot (ih _ _ _ _ _ (by omega) a3 (by omega)) (fun j c w e => sm)
      · rw [if_neg k1]
        by_cases k2 : q_tk b n i = 40
        · rw [if_pos k2]
          by_cases k3 : dp = 6
          · rw [if_pos k3]; exact sm
          · rw [if_neg k3]; exact br 9 41 (by omega) (by decide)
        · rw [if_neg k2]; exact sq 3 6 (by omega) (by omega) (by decide)
    by_cases h6 : tag = 6
    · subst h6
      rw [q_p6]
      by_cases k1 : q_cs (q_tk b n i) = -1
      · rw [if_pos k1]; exact sm
      · rw [if_neg k1]
        obtain ⟨a1, a2, a3⟩ := q_s1 (b := b) (n := n) (i := i) (q_cs_nn k1)
        have : q_rk 3 = 2 := rfl
        exact q_bd_tot (ih _ _ _ _ _ (by omega) a3 (by omega)) (fun j c w e => sm)
    by_cases h7 : tag = 7
    · subst h7; rw [q_p7]; exact sq 5 8 (by omega) (by omega) (by decide)
    by_cases h8 : tag = 8
    · subst h8
      rw [q_p8]
      by_cases k1 : q_tk b n i = 38
      · rw [if_pos k1]; exact lp 17 5 8 (by omega) (by omega) (by omega) rfl
      · rw [if_neg k1]; exact sm
    by_cases h9 : tag = 9
    · subst h9; rw [q_p9]; exact sq 7 10 (by omega) (by omega) (by decide)
    by_cases h10 : tag = 10
    · subst h10
      rw [q_p10]
      by_cases k1 : q_tk b n i = 124
      · rw [if_pos k1]; exact lp 18 7 10 (by omega) (by omega) (by omega) rfl
      · rw [if_neg k1]; exact sm
    · omega
