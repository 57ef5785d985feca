/-! acts: shut, wheels, move -/
abbrev q_fA1 : List (Nat × Nat × Nat) := (18, 2, 8) :: (19, 0, 8) :: q_fA
theorem q_fA_1 {I I' : Nat → Nat → Int} (h : x_fr q_fA I I') : x_fr q_fA1 I I' := fun a k hm => h a k (by
  cases e : x_mem q_fA a k with
  | false => rfl
  | true => rw [show x_mem q_fA1 a k = true from x_mem2 (b := 0) (lo := 0) (hi := 0) (x_mem2 (b := 0) (lo := 0) (hi := 0) e)] at hm; cases hm)
theorem q_fA_out {I I' : Nat → Nat → Int} (h : x_fr q_fA I I') {a k : Nat} (h1 : a < 21 ∨ (148 ≤ a ∧ a ≠ 161)) : I' a k = I a k := by
  refine h a k ?_
  cases e : x_mem q_fA a k with
  | false => rfl
  | true =>
    obtain ⟨t, m1, m2, m3, m4⟩ := (x_mem_iff _ a k).mp e
    rcases List.mem_cons.mp m1 with rfl | m1
    · dsimp only at m2; omega
    · rcases List.mem_cons.mp m1 with rfl | m1
      · dsimp only at m2; omega
      · obtain ⟨i, i1, rfl⟩ := List.mem_map.mp m1
        have := List.mem_range.mp i1
        dsimp only at m2; omega
theorem q_St_A {I I' : Nat → Nat → Int} {N : Nat → Int} (h : q_St I 18 N) (hf : x_fr q_fA I I') : q_St I' 18 N := q_St_eq h (fun k _ _ => q_fA_out hf (by omega)) (fun k _ => ⟨q_fA_out hf (by omega), q_fA_out hf (by omega)⟩)
abbrev q_fPm : List (Nat × Nat × Nat) := [(190, 0, 210), (179, 0, 1), (196, 0, 8400), (179, 46, 47)]
theorem q_Am_0 {I : Nat → Nat → Int} {H : Nat → Nat → Int} {na : Nat} (h : q_Am I H na) : q_Am (x_u I 179 0 0) H na := h
theorem q_Am_N {I : Nat → Nat → Int} {H : Nat → Nat → Int} {na k : Nat} {v : Int} (h : q_Am I H na) : q_Am (x_u I 190 k v) H na := ⟨(x_u_ne _ _ (by omega)).trans h.1, h.2.1, fun j hj x hx => (x_u_ne _ _ (by omega)).trans (h.2.2 j hj x hx)⟩
theorem c_shut {g : x_G} {k : Nat} {Q : x_Q} {I L : Nat → Nat → Int} {lp tp na R : Nat} {H : Nat → Nat → Int} {N : Nat → Int} (hR : R ≤ 8) (e3 : I 14 3 = (R : Int)) (hN : q_St I 18 N) (hA : q_Ac I H na) {r : Int} (hr : x_rg r) (q0 : ¬ ((0 ≤ r ∧ r < (R : Int)) ∧ N (16 + r.toNat) = 0) → Q [x_i 0] (I, L, lp, tp)) (q1 : 0 ≤ r ∧ r < (R : Int) → N (16 + r.toNat) = 0 → ∀ I', x_fr q_fA1 I I' → I' 161 1 = 0 → q_St I' 18 (q_up N (16 + r.toNat) 1) → q_Ac I' (q_h1 H na N) (min 40 (na + 1)) → Q [x_i 1] (I', L, lp, tp)) : x_X g (k + 6) 133 [x_r 1, x_i r] (I, L, lp, tp) Q := by
  obtain ⟨n1, ⟨d, d1, d2, d3⟩, n3⟩ := hN
  refine v_shut (k := k + 4) ?_
  rw [e3, d2]
  refine ⟨hr, fun c => q0 (by omega), fun c1 => ⟨⟨by omega, by omega⟩, fun c => q0 (by omega), fun c2 => ⟨⟨by omega, by omega⟩, ⟨by omega, by omega⟩, fun cb => ?_, fun cb => ?_⟩⟩⟩
  · obtain ⟨a, rfl⟩ := Int.eq_ofNat_of_zero_le c1
    refine q0 (fun h => ?_)
    rw [show ((a : Int)).toNat = a by omega] at h cb
    rw [show ((d : Int)).toNat = d by omega] at cb
    have := h.2
    rw [d3 a (by omega), if_pos cb] at this
    exact absurd this (by decide)
  · obtain ⟨a, rfl⟩ := Int.eq_ofNat_of_zero_le c1
    rw [show ((a : Int)).toNat = a by omega] at q1 cb
    rw [show ((d : Int)).toNat = d by omega] at cb
    have ha : a < 8 := by omega
    have h0 : N (16 + a) = 0 := by rw [d3 a ha, if_neg cb]
    refine s_beginAct ⟨n1, ⟨d, d1, d2, d3⟩, n3⟩ hA (fun I1 f1 e1 hA1 => ⟨rfl, ?_⟩)
    obtain ⟨p1, -, p3, p4, p5, p6, p7⟩ := q_St_A ⟨n1, ⟨d, d1, d2, d3⟩, n3⟩ f1
    have p2 : I1 18 2 = (d : Int) := (q_fA_out f1 (by omega)).trans d2
    obtain ⟨o1, o2⟩ := q_or1 d a d1 ha
    dsimp only
    rw [p2, o1]
    refine q1 ⟨c1, c2⟩ h0 _ (x_fr_u (q_fA_1 f1) rfl) e1 ⟨fun r hr => ⟨?_, ?_⟩, ⟨d ||| 2 ^ a, o2, rfl, fun r hr => ?_⟩, ?_, ?_, ?_, ?_, ?_⟩ (q_Ac_fr hA1 rfl rfl (fun a k h1 h2 => x_u_ne _ _ (by omega)))
    · rw [show q_up N (16 + a) 1 r = N r from if_neg (by omega)]; exact (p1 r hr).1
    · rw [show q_up N (16 + a) 1 (8 + r) = N (8 + r) from if_neg (by omega)]; exact (p1 r hr).2
    · rw [Nat.testBit_or, Nat.testBit_two_pow]
      unfold q_up
      by_cases e : r = a
      · rw [if_pos (by omega), e]; simp
      · rw [if_neg (by omega), d3 r hr]
        have : decide (a = r) = false := by simp; omega
        rw [this, Bool.or_false]
    · rw [show q_up N (16 + a) 1 24 = N 24 from if_neg (by omega)]; exact p3
    · rw [show q_up N (16 + a) 1 25 = N 25 from if_neg (by omega)]; exact p4
    · rw [show q_up N (16 + a) 1 26 = N 26 from if_neg (by omega)]; exact p5
    · rw [show q_up N (16 + a) 1 27 = N 27 from if_neg (by omega)]; exact p6
    · rw [show q_up N (16 + a) 1 28 = N 28 from if_neg (by omega)]; exact p7
theorem m_shut {g : x_G} {k : Nat} {Q : x_Q} {I L : Nat → Nat → Int} {lp tp na R : Nat} {H : Nat → Nat → Int} (hR : R ≤ 8) (e24 : I 179 24 = (R : Int)) (hA : q_Am I H na) (hb : ∀ r, r < 8 → I 190 (16 + r) = 0 ∨ I 190 (16 + r) = 1) {r : Int} (hr : x_rg r) (q0 : ¬ ((0 ≤ r ∧ r < (R : Int)) ∧ I 190 (16 + r.toNat) = 0) → Q [x_i 0] (x_u I 179 0 0, L, lp, tp)) (q1 : 0 ≤ r ∧ r < (R : Int) → I 190 (16 + r.toNat) = 0 → ∀ I', x_fr q_fPm I I' → (∀ x, I' 190 x = q_up (I 190) (16 + r.toNat) 1 x) → q_Am I' (q_h1 H na (I 190)) (min 40 (na + 1)) → Q [x_i 1] (I', L, lp, tp)) : x_X g (k + 4) 244 [x_r 179, x_i r] (I, L, lp, tp) Q := by
  refine v_shutM (k := k + 2) ?_
  rw [e24]
  refine ⟨hr, fun c => q0 (by omega), fun c1 => ⟨⟨by omega, by omega⟩, fun c => q0 (by omega), fun c2 => ?_⟩⟩
  obtain ⟨a, rfl⟩ := Int.eq_ofNat_of_zero_le c1
  rw [show ((a : Int)).toNat = a by omega] at q0 q1
  rw [show (16 + (a : Int)).toNat = 16 + a by omega]
  have ha : a < 8 := by omega
  have hb1 := hb a ha
  refine ⟨⟨by omega, by omega⟩, ⟨by omega, by omega⟩, fun c => ?_, fun c => q0 (by omega)⟩
  refine x_le (show 1 ≤ k + 2 by omega) (m_remember (k := 0) (q_Am_0 hA) (fun I1 f1 hA1 => ⟨rfl, ?_⟩))
  refine q1 ⟨c1, c2⟩ (by omega) _ (x_fr_u (k := 16 + a) (x_fr_trans (x_fr_u (x_fr_refl _ _) rfl) (x_fr_mono f1 rfl)) (x_mem1 ⟨by omega, by omega⟩)) (fun x => ?_) (q_Am_N hA1)
  dsimp only
  rw [x_u_eq, f1 190 x rfl]
  unfold q_up
  by_cases e : x = 16 + a
  · rw [if_pos ⟨rfl, e⟩, if_pos e]
  · rw [if_neg (fun h => e h.2), if_neg e]; rfl
