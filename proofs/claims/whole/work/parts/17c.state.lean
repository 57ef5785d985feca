/-! states, copied -/
theorem q_st_tab : ∀ i, i < 40 → (x_s0 (28 + 3 * i)).1 = 8 ∧ x_s0 (28 + 3 * i + 1) = (100, 8) ∧ x_s0 (28 + 3 * i + 2) = (100, 8) ∧ x_r0 (28 + 3 * i) 0 = 28 + 3 * i + 1 ∧ x_r0 (28 + 3 * i) 1 = 28 + 3 * i + 2 ∧ x_r0 22 i = 28 + 3 * i := by decide +kernel
def q_isSt (a : Nat) : Prop := a = 18 ∨ a = 24 ∨ ∃ i, i < 40 ∧ a = 28 + 3 * i
theorem q_beqf {a b : Nat} (h : a ≠ b) : Nat.beq a b = false := by
  cases e : Nat.beq a b with
  | false => rfl
  | true => exact absurd (Nat.eq_of_beq_eq_true e) h
theorem x_R_r0 {lp tp a k : Nat} (h1 : a < 154) : x_R lp tp a k = x_r0 a k := by
  unfold x_R
  rw [q_beqf (show a ≠ 154 by omega), q_beqf (show a ≠ 179 by omega)]
  rfl
theorem x_sh_s0 {n a : Nat} (h1 : a < 154) : x_sh n a = x_s0 a := by
  unfold x_sh
  rw [q_beqf (show a ≠ 6000 by omega)]
  rfl
theorem q_isSt_ok {a : Nat} (h : q_isSt a) (n lp tp : Nat) : (x_sh n a).1 = 8 ∧ x_R lp tp a 0 = a + 1 ∧ x_R lp tp a 1 = a + 2 ∧ x_sh n (a + 1) = (100, 8) ∧ x_sh n (a + 2) = (100, 8) := by
  rcases h with rfl | rfl | ⟨i, hi, rfl⟩
  · exact ⟨rfl, rfl, rfl, rfl, rfl⟩
  · exact ⟨rfl, rfl, rfl, rfl, rfl⟩
  · obtain ⟨t1, t2, t3, t4, t5, -⟩ := q_st_tab i hi
    rw [x_sh_s0 (by omega), x_R_r0 (by omega), x_R_r0 (by omega), x_sh_s0 (by omega), x_sh_s0 (by omega)]
    exact ⟨t1, t4, t5, t2, t3⟩
def q_c6 (I : Nat → Nat → Int) (s o : Nat) : Nat → Nat → Int :=
  let J0 := x_cp (x_cp I (s + 1) (o + 1) 0 0 8) (s + 2) (o + 2) 0 0 8
  let J1 := x_u J0 o 2 (J0 s 2)
  let J2 := x_u J1 o 3 (J1 s 3)
  let J3 := x_u J2 o 4 (J2 s 4)
  let J4 := x_u J3 o 5 (J3 s 5)
  let J5 := x_u J4 o 6 (J4 s 6)
  x_u J5 o 7 (J5 s 7)
theorem q_c6_eq {I : Nat → Nat → Int} {s o : Nat} (h : o + 3 ≤ s ∨ s + 3 ≤ o) : (∀ a k, ¬ (o ≤ a ∧ a ≤ o + 2 ∧ k < 8) → q_c6 I s o a k = I a k) ∧ (∀ k, k < 8 → q_c6 I s o (o + 1) k = I (s + 1) k ∧ q_c6 I s o (o + 2) k = I (s + 2) k) ∧ (∀ k, 2 ≤ k → k < 8 → q_c6 I s o o k = I s k) := by
  have e1 : ∀ a k, ¬ (a = o ∧ 2 ≤ k ∧ k < 8) → q_c6 I s o a k = x_cp (x_cp I (s + 1) (o + 1) 0 0 8) (s + 2) (o + 2) 0 0 8 a k := fun a k hk => by
    unfold q_c6
    rw [x_u_ne _ _ (by omega), x_u_ne _ _ (by omega), x_u_ne _ _ (by omega), x_u_ne _ _ (by omega), x_u_ne _ _ (by omega), x_u_ne _ _ (by omega)]
  refine ⟨fun a k hk => ?_, fun k hk => ⟨?_, ?_⟩, fun k h2 h8 => ?_⟩
  · rw [e1 a k (by omega), x_cp_eq, if_neg (by omega), x_cp_eq, if_neg (by omega)]
  · rw [e1 _ k (by omega), x_cp_eq, if_neg (by omega), x_cp_eq, if_pos ⟨rfl, by omega, by omega⟩]
    rw [show 0 + (k - 0) = k by omega]
  · rw [e1 _ k (by omega), x_cp_eq, if_pos ⟨rfl, by omega, by omega⟩, x_cp_eq, if_neg (by omega)]
    rw [show 0 + (k - 0) = k by omega]
  · have e0 : x_cp (x_cp I (s + 1) (o + 1) 0 0 8) (s + 2) (o + 2) 0 0 8 s k = I s k := by
      rw [x_cp_eq, if_neg (by omega), x_cp_eq, if_neg (by omega)]
    unfold q_c6
    rcases (show k = 2 ∨ k = 3 ∨ k = 4 ∨ k = 5 ∨ k = 6 ∨ k = 7 by omega) with rfl | rfl | rfl | rfl | rfl | rfl
    · rw [x_u_ne _ _ (by omega), x_u_ne _ _ (by omega), x_u_ne _ _ (by omega), x_u_ne _ _ (by omega), x_u_ne _ _ (by omega), x_u_same, e0]
    · rw [x_u_ne _ _ (by omega), x_u_ne _ _ (by omega), x_u_ne _ _ (by omega), x_u_ne _ _ (by omega), x_u_same, x_u_ne _ _ (by omega), e0]
    · rw [x_u_ne _ _ (by omega), x_u_ne _ _ (by omega), x_u_ne _ _ (by omega), x_u_same, x_u_ne _ _ (by omega), x_u_ne _ _ (by omega), e0]
    · rw [x_u_ne _ _ (by omega), x_u_ne _ _ (by omega), x_u_same, x_u_ne _ _ (by omega), x_u_ne _ _ (by omega), x_u_ne _ _ (by omega), e0]
    · rw [x_u_ne _ _ (by omega), x_u_same, x_u_ne _ _ (by omega), x_u_ne _ _ (by omega), x_u_ne _ _ (by omega), x_u_ne _ _ (by omega), e0]
    · rw [x_u_same, x_u_ne _ _ (by omega), x_u_ne _ _ (by omega), x_u_ne _ _ (by omega), x_u_ne _ _ (by omega), x_u_ne _ _ (by omega), e0]
theorem s_copy {g : x_G} {k : Nat} {Q : x_Q} {I L : Nat → Nat → Int} {lp tp o s : Nat} (ho : q_isSt o) (hs : q_isSt s) (hq : Q [] (q_c6 I s o, L, lp, tp)) : x_X g (k + 1) 92 [x_r o, x_r s] (I, L, lp, tp) Q := by
  obtain ⟨o1, o2, o3, o4, o5⟩ := q_isSt_ok ho g.2.2 lp tp
  obtain ⟨s1, s2, s3, s4, s5⟩ := q_isSt_ok hs g.2.2 lp tp
  refine v_copy ?_
  rw [o2, o3, s2, s3, o4, o5, s4, s5]
  exact ⟨s1, o1, rfl, rfl, by decide, by decide, rfl, rfl, by decide, by decide, hq⟩
/-- a state of the class, and a row of the reference -/
def q_St (I : Nat → Nat → Int) (c : Nat) (N : Nat → Int) : Prop := (∀ r, r < 8 → I (c + 1) r = N r ∧ I (c + 2) r = N (8 + r)) ∧ (∃ d : Nat, d < 256 ∧ I c 2 = (d : Int) ∧ ∀ r, r < 8 → N (16 + r) = if d.testBit r = true then 1 else 0) ∧ I c 3 = N 24 ∧ I c 4 = N 25 ∧ I c 5 = N 26 ∧ I c 6 = N 27 ∧ I c 7 = N 28
theorem q_St_eq {I I' : Nat → Nat → Int} {c : Nat} {N : Nat → Int} (h : q_St I c N) (h0 : ∀ k, 2 ≤ k → k < 8 → I' c k = I c k) (h1 : ∀ k, k < 8 → I' (c + 1) k = I (c + 1) k ∧ I' (c + 2) k = I (c + 2) k) : q_St I' c N := by
  obtain ⟨a1, ⟨d, d1, d2, d3⟩, a3, a4, a5, a6, a7⟩ := h
  exact ⟨fun r hr => ⟨(h1 r hr).1.trans (a1 r hr).1, (h1 r hr).2.trans (a1 r hr).2⟩, ⟨d, d1, (h0 2 (by decide) (by decide)).trans d2, d3⟩, (h0 3 (by decide) (by decide)).trans a3, (h0 4 (by decide) (by decide)).trans a4, (h0 5 (by decide) (by decide)).trans a5, (h0 6 (by decide) (by decide)).trans a6, (h0 7 (by decide) (by decide)).trans a7⟩
theorem q_St_cp {I : Nat → Nat → Int} {s o : Nat} {N : Nat → Int} (h : q_St I s N) (hd : o + 3 ≤ s ∨ s + 3 ≤ o) : q_St (q_c6 I s o) o N := by
  obtain ⟨-, c2, c3⟩ := q_c6_eq (I := I) hd
  obtain ⟨a1, ⟨d, d1, d2, d3⟩, a3, a4, a5, a6, a7⟩ := h
  exact ⟨fun r hr => ⟨(c2 r hr).1.trans (a1 r hr).1, (c2 r hr).2.trans (a1 r hr).2⟩, ⟨d, d1, (c3 2 (by decide) (by decide)).trans d2, d3⟩, (c3 3 (by decide) (by decide)).trans a3, (c3 4 (by decide) (by decide)).trans a4, (c3 5 (by decide) (by decide)).trans a5, (c3 6 (by decide) (by decide)).trans a6, (c3 7 (by decide) (by decide)).trans a7⟩
theorem q_St_other {I : Nat → Nat → Int} {s o c : Nat} {N : Nat → Int} (h : q_St I c N) (hd : o + 3 ≤ s ∨ s + 3 ≤ o) (hc : o + 3 ≤ c ∨ c + 3 ≤ o) : q_St (q_c6 I s o) c N := by
  obtain ⟨c1, -⟩ := q_c6_eq (I := I) hd
  exact q_St_eq h (fun k _ _ => c1 c k (by omega)) (fun k _ => ⟨c1 _ k (by omega), c1 _ k (by omega)⟩)
