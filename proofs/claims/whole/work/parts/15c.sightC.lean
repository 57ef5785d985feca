/-! sightings, by the class -/
abbrev q_fY : List (Nat × Nat × Nat) := [(165, 0, 8)]
def q_Sc (I : Nat → Nat → Int) (es la : Nat → Int) : Prop := ∀ r, r < 8 → I 163 r = es r ∧ I 164 r = la r ∧ (0 ≤ es r ∧ es r ≤ 1000) ∧ 0 ≤ la r ∧ la r ≤ 1000000
def q_Sf (I : Nat → Nat → Int) : Prop := ∀ j, j < 9 → I 5006 j = ((q_fac j : Nat) : Int)
theorem q_fc_n (i : Nat) : q_fc (i : Int) = (i : Int) := by unfold q_fc; rw [if_neg (by omega)]
theorem s_countOrders {g : x_G} {k : Nat} {Q : x_Q} {I L : Nat → Nat → Int} {lp tp n : Nat} (hn : n < 256) {a : Int} (ha : a = 0 ∨ a = 1) (h6 : q_Sf I) (hq : ∀ I', x_fr q_fY I I' → (∀ x, I' 165 x = I 165 x + if a = 1 ∧ n.testBit x = true then ((q_fac (q_pc n) : Nat) : Int) else 0) → Q [x_i ((q_fac (q_pc n) : Nat) : Int)] (I', L, lp, tp)) : x_X g (k + 3) 88 [x_r 162, x_i (n : Int), x_i a] (I, L, lp, tp) Q := by
  have hpc := q_pc_8 n
  have hb8 : ∀ x, n.testBit x = true → x < 8 := (q_set_ok (R := 8) (n := n) (by decide) (by omega)).2
  generalize hN : ((q_fac (q_pc n) : Nat) : Int) = N at hq
  have loop : ∀ (m i : Nat) (J : Nat → Nat → Int), i + m = 8 → x_fr q_fY I J → (∀ x, J 165 x = I 165 x + if a = 1 ∧ x < i ∧ n.testBit x = true then N else 0) → x_S g (k + 1 + 2) 88 Q 9 [x_r 162, x_i (n : Int), x_i a, x_i N, x_i (i : Int)] [] (J, L, lp, tp) := by
    intro m
    induction m with
    | zero =>
      intro i J hm fJ hJ
      refine v_countOrders_L9 ?_
      refine ⟨⟨by omega, by omega⟩, fun _ => hq J fJ (fun x => ?_), fun q => by omega⟩
      rw [hJ x]
      by_cases c : a = 1 ∧ n.testBit x = true
      · rw [if_pos c, if_pos ⟨c.1, by have := hb8 x c.2; omega, c.2⟩]
      · rw [if_neg c, if_neg (fun h => c ⟨h.1, h.2.2⟩)]
    | succ m ih =>
      intro i J hm fJ hJ
      refine v_countOrders_L9 ?_
      rw [show ((i : Int)).toNat = i by omega, show ((n : Int)).toNat = n by omega]
      have up : ∀ v, v = (if n.testBit i = true then N else 0) → a = 1 → ∀ x, x_u J 165 i (J 165 i + v) 165 x = I 165 x + if a = 1 ∧ x < i + 1 ∧ n.testBit x = true then N else 0 := fun v hv a1 x => by
        rw [x_u_eq]
        by_cases e : x = i
        · subst e
          rw [if_pos ⟨rfl, rfl⟩, hJ x, if_neg (fun h => by omega), hv]
          by_cases c : n.testBit x = true
          · rw [if_pos c, if_pos ⟨a1, by omega, c⟩]; omega
          · rw [if_neg c, if_neg (fun h => c h.2.2)]; omega
        · rw [if_neg (fun h => e h.2), hJ x]
          by_cases c : a = 1 ∧ x < i ∧ n.testBit x = true
          · rw [if_pos c, if_pos ⟨c.1, by omega, c.2.2⟩]
          · rw [if_neg c, if_neg (fun h => c ⟨h.1, by omega, h.2.2⟩)]
      refine ⟨⟨by omega, by omega⟩, fun q => by omega, fun q => ⟨by rcases ha with h | h <;> rw [h] <;> decide, fun a0 => hq J fJ (fun x => ?_), fun a0 => ⟨⟨by omega, by omega⟩, ⟨by omega, by omega⟩, ⟨by omega, by omega⟩, fun cb => ?_, fun cb => ?_⟩⟩⟩
      · rw [hJ x, if_neg (fun h => by omega), if_neg (fun h => by omega)]
      · exact ih (i + 1) _ (by omega) (x_fr_u (k := i) fJ (x_mem1 ⟨by omega, by omega⟩)) (up N (by rw [if_pos cb]) (by omega))
      · exact ih (i + 1) _ (by omega) (x_fr_u (k := i) fJ (x_mem1 ⟨by omega, by omega⟩)) (up 0 (by rw [if_neg cb]) (by omega))
  refine v_countOrders (k := k + 1) ?_
  rw [show x_and (n : Int) 255 = (n : Int) by rw [q_and255]; omega]
  refine x_le (show 1 ≤ k + 1 by omega) (s_bitCount (k := 0) hn ⟨_, rfl, ⟨by omega, by omega⟩, ?_⟩)
  dsimp only
  rw [show ((q_pc n : Nat) : Int).toNat = q_pc n by omega, h6 _ (by omega), hN]
  exact loop 8 0 I (by decide) (x_fr_refl _ _) (fun x => by rw [if_neg (fun h => by omega)]; omega)
