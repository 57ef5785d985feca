/-! Small methods, and what they answer -/
theorem v_has {g : x_G} {k : Nat} {Q : x_Q} {I L : Nat → Nat → Int} {lp tp : Nat} {s j : Int} (h : (x_rg (x_and (x_shr s j) 1)) ∧ ((¬ (x_and (x_shr s j) 1) = 1 → Q [x_i 0] (I, L, lp, tp)) ∧ ((x_and (x_shr s j) 1) = 1 → Q [x_i 1] (I, L, lp, tp)))) : x_X g (k + 1) 179 [x_i s, x_i j] (I, L, lp, tp) Q := x_in m_179 [] 600 rfl rfl (⟨h.1, (show x_rg 1 by decide), (fun c1 => ⟨(Or.inl rfl), (h.2.1 c1)⟩), (fun c1 => ⟨(Or.inr rfl), (h.2.2 c1)⟩)⟩)
theorem v_hasM {g : x_G} {k : Nat} {Q : x_Q} {I L : Nat → Nat → Int} {lp tp : Nat} {s j : Int} (h : (x_rg (x_and (x_shr s j) 1)) ∧ ((¬ (x_and (x_shr s j) 1) = 1 → Q [x_i 0] (I, L, lp, tp)) ∧ ((x_and (x_shr s j) 1) = 1 → Q [x_i 1] (I, L, lp, tp)))) : x_X g (k + 1) 188 [x_i s, x_i j] (I, L, lp, tp) Q := x_in m_188 [] 600 rfl rfl (⟨h.1, (show x_rg 1 by decide), (fun c1 => ⟨(Or.inl rfl), (h.2.1 c1)⟩), (fun c1 => ⟨(Or.inr rfl), (h.2.2 c1)⟩)⟩)
theorem v_isIn {g : x_G} {k : Nat} {Q : x_Q} {I L : Nat → Nat → Int} {lp tp : Nat} {v lo hi : Int} (h : (x_rl v) ∧ ((x_rl lo) ∧ ((x_rg (x_cmp v lo)) ∧ (((x_cmp v lo) < 0 → Q [x_i 0] (I, L, lp, tp)) ∧ (0 ≤ (x_cmp v lo) → (x_rl hi) ∧ ((x_rg (x_cmp v hi)) ∧ ((0 < (x_cmp v hi) → Q [x_i 0] (I, L, lp, tp)) ∧ ((x_cmp v hi) ≤ 0 → Q [x_i 1] (I, L, lp, tp))))))))) : x_X g (k + 1) 187 [x_l v, x_l lo, x_l hi] (I, L, lp, tp) Q := x_in m_187 [] 600 rfl rfl (⟨⟨h.1, h.2.1⟩, ⟨h.2.2.1, (fun c1 => ⟨(Or.inl rfl), (h.2.2.2.1 c1)⟩), (fun c1 => ⟨⟨h.1, (h.2.2.2.2 c1).1⟩, ⟨(h.2.2.2.2 c1).2.1, (fun c2 => ⟨(Or.inl rfl), ((h.2.2.2.2 c1).2.2.1 c2)⟩), (fun c2 => ⟨(Or.inr rfl), ((h.2.2.2.2 c1).2.2.2 c2)⟩)⟩⟩)⟩⟩)
theorem v_within {g : x_G} {k : Nat} {Q : x_Q} {I L : Nat → Nat → Int} {lp tp : Nat} {v lo hi : Int} (h : (x_rg v) ∧ ((x_rg lo) ∧ ((lo ≤ v → (x_rg hi) ∧ ((v ≤ hi → Q [x_i v] (I, L, lp, tp)) ∧ (hi < v → Q [x_i hi] (I, L, lp, tp)))) ∧ (v < lo → Q [x_i lo] (I, L, lp, tp))))) : x_X g (k + 1) 180 [x_i v, x_i lo, x_i hi] (I, L, lp, tp) Q := x_in m_180 [] 600 rfl rfl (⟨h.1, h.2.1, (fun c1 => ⟨h.1, (h.2.2.1 c1).1, (fun c2 => ((h.2.2.1 c1).2.1 c2)), (fun c2 => ((h.2.2.1 c1).2.2 c2))⟩), (fun c1 => (h.2.2.2 c1))⟩)
theorem x_rgl {z : Int} (h : x_rg z) : x_rl z := ⟨by have := h.1; omega, by have := h.2; omega⟩
theorem q_hasN {s j : Int} (h1 : 0 ≤ s ∧ s < 2147483648) (h2 : 0 ≤ j ∧ j < 31) : x_and (x_shr s j) 1 = if s.toNat.testBit j.toNat = true then 1 else 0 := by
  obtain ⟨n, rfl⟩ := Int.eq_ofNat_of_zero_le h1.1
  obtain ⟨m, rfl⟩ := Int.eq_ofNat_of_zero_le h2.1
  exact q_has_eq n m (by omega) (by omega)
theorem sm_has {g : x_G} {k : Nat} {Q : x_Q} {w : x_W} {s j : Int} (h1 : 0 ≤ s ∧ s < 2147483648) (h2 : 0 ≤ j ∧ j < 31) (hq : Q [x_i (x_b (s.toNat.testBit j.toNat = true))] w) : x_X g (k + 1) 179 [x_i s, x_i j] w Q := by
  refine v_has ?_
  rw [q_hasN h1 h2]
  by_cases h : s.toNat.testBit j.toNat = true
  · rw [x_b, if_pos h] at hq
    rw [if_pos h]
    exact ⟨by decide, fun q => absurd rfl q, fun _ => hq⟩
  · rw [x_b, if_neg h] at hq
    rw [if_neg h]
    exact ⟨by decide, fun _ => hq, fun q => absurd q (by decide)⟩
theorem sm_hasM {g : x_G} {k : Nat} {Q : x_Q} {w : x_W} {s j : Int} (h1 : 0 ≤ s ∧ s < 2147483648) (h2 : 0 ≤ j ∧ j < 31) (hq : Q [x_i (x_b (s.toNat.testBit j.toNat = true))] w) : x_X g (k + 1) 188 [x_i s, x_i j] w Q := by
  refine v_hasM ?_
  rw [q_hasN h1 h2]
  by_cases h : s.toNat.testBit j.toNat = true
  · rw [x_b, if_pos h] at hq
    rw [if_pos h]
    exact ⟨by decide, fun q => absurd rfl q, fun _ => hq⟩
  · rw [x_b, if_neg h] at hq
    rw [if_neg h]
    exact ⟨by decide, fun _ => hq, fun q => absurd q (by decide)⟩
theorem x_cmpl {x y : Int} : (x_cmp x y < 0 ↔ x < y) ∧ (x_cmp x y ≤ 0 ↔ x ≤ y) ∧ (0 < x_cmp x y ↔ y < x) ∧ (0 ≤ x_cmp x y ↔ y ≤ x) ∧ (x_cmp x y = 0 ↔ x = y) ∧ x_rg (x_cmp x y) := by
  unfold x_cmp
  by_cases h1 : x < y
  · rw [if_pos h1]; refine ⟨?_, ?_, ?_, ?_, ?_, by decide⟩ <;> omega
  · by_cases h2 : x = y
    · rw [if_neg h1, if_pos h2]; refine ⟨?_, ?_, ?_, ?_, ?_, by decide⟩ <;> omega
    · rw [if_neg h1, if_neg h2]; refine ⟨?_, ?_, ?_, ?_, ?_, by decide⟩ <;> omega
theorem sm_isIn {g : x_G} {k : Nat} {Q : x_Q} {w : x_W} {v lo hi : Int} (h1 : x_rl v) (h2 : x_rl lo) (h3 : x_rl hi) (hq : Q [x_i (x_b (lo ≤ v ∧ v ≤ hi))] w) : x_X g (k + 1) 187 [x_l v, x_l lo, x_l hi] w Q := by
  refine v_isIn ?_
  obtain ⟨a1, a2, a3, a4, a5, a6⟩ := x_cmpl (x := v) (y := lo)
  obtain ⟨b1, b2, b3, b4, b5, b6⟩ := x_cmpl (x := v) (y := hi)
  refine ⟨h1, h2, a6, fun c => ?_, fun c => ⟨h3, b6, fun c2 => ?_, fun c2 => ?_⟩⟩
  · rw [x_b, if_neg (by omega)] at hq; exact hq
  · rw [x_b, if_neg (by omega)] at hq; exact hq
  · rw [x_b, if_pos (by omega)] at hq; exact hq
theorem sm_within {g : x_G} {k : Nat} {Q : x_Q} {w : x_W} {v lo hi : Int} (h1 : x_rg v) (h2 : x_rg lo) (h3 : x_rg hi) (h4 : lo ≤ hi) (hq : Q [x_i (max lo (min v hi))] w) : x_X g (k + 1) 180 [x_i v, x_i lo, x_i hi] w Q := by
  refine v_within ?_
  refine ⟨h1, h2, fun c => ⟨h3, fun c2 => ?_, fun c2 => ?_⟩, fun c => ?_⟩
  · rw [show max lo (min v hi) = v by omega] at hq; exact hq
  · rw [show max lo (min v hi) = hi by omega] at hq; exact hq
  · rw [show max lo (min v hi) = lo by omega] at hq; exact hq
