/-! The class reads a law: terms, sums, conditions -/
def q_cmpP (g : x_G) (k dp : Nat) (Q : x_Q) (I L : Nat → Nat → Int) (lp tp : Nat) : Prop := (q_tk0 I) ∧ ((x_rg (I 9 2)) ∧ ((x_rg (q_at I (I 9 2))) ∧ (((q_at I (I 9 2)) = 60 → (0 ≤ ((I 9 2) + 1) ∧ ((I 9 2) + 1) ≤ 1000) ∧ (x_X g k 43 [x_r 9, x_i (dp : Int)] ((x_u I 9 2 (q_pb I ((I 9 2) + 1))), L, lp, tp) (fun rv w10 => ∃ z9, rv = [x_i z9] ∧ (x_rg z9) ∧ ((¬ z9 = 0 → x_X g k 23 [x_r 10, x_i 15] w10 (fun rv w14 => ∃ z13, rv = [x_i z13] ∧ Q [x_i 1] w14)) ∧ (z9 = 0 → Q [x_i 0] w10))))) ∧ ((q_at I (I 9 2)) = 61 → (0 ≤ ((I 9 2) + 1) ∧ ((I 9 2) + 1) ≤ 1000) ∧ (x_X g k 43 [x_r 9, x_i (dp : Int)] ((x_u I 9 2 (q_pb I ((I 9 2) + 1))), L, lp, tp) (fun rv w17 => ∃ z16, rv = [x_i z16] ∧ (x_rg z16) ∧ ((¬ z16 = 0 → x_X g k 23 [x_r 10, x_i 14] w17 (fun rv w21 => ∃ z20, rv = [x_i z20] ∧ Q [x_i 1] w21)) ∧ (z16 = 0 → Q [x_i 0] w17))))) ∧ ((q_at I (I 9 2)) = 62 → (0 ≤ ((I 9 2) + 1) ∧ ((I 9 2) + 1) ≤ 1000) ∧ (x_X g k 43 [x_r 9, x_i (dp : Int)] ((x_u I 9 2 (q_pb I ((I 9 2) + 1))), L, lp, tp) (fun rv w24 => ∃ z23, rv = [x_i z23] ∧ (x_rg z23) ∧ ((¬ z23 = 0 → x_X g k 23 [x_r 10, x_i 16] w24 (fun rv w28 => ∃ z27, rv = [x_i z27] ∧ Q [x_i 1] w28)) ∧ (z23 = 0 → Q [x_i 0] w24))))) ∧ (¬ (q_at I (I 9 2)) = 60 ∧ ¬ (q_at I (I 9 2)) = 61 ∧ ¬ (q_at I (I 9 2)) = 62 → Q [x_i 0] (I, L, lp, tp)))))
def q_SC (g : x_G) (b : Nat → Int) (n f : Nat) : Prop := ∀ (dp i : Nat) (cs : List Int) (v : q_LV) (r : Nat ⊕ (Nat × List Int × q_LV)) (k : Nat) (I L : Nat → Nat → Int) (lp tp : Nat) (Q : x_Q), q_p b n f 6 dp i cs v = some r → q_LT I b n i cs → cs.length ≤ i → dp ≤ 6 → 16 + 12 * (6 - dp) ≤ k → q_PO b n Q I L lp tp r → q_cmpP g k dp Q I L lp tp
theorem q_LT_i {I : Nat → Nat → Int} {b : Nat → Int} {n i : Nat} {cs : List Int} (h : q_LT I b n i cs) : i ≤ n ∧ n ≤ 240 ∧ I 9 2 = (i : Int) ∧ I 2 1 = (n : Int) := ⟨h.2.2.2.2.2.2.1, h.2.2.1, h.2.2.2.2.2.1, h.2.1⟩
theorem s_readTerm {g : x_G} {b : Nat → Int} {n f : Nat} (hA : q_SX g b n f 0 45 q_a1 10) (hL : q_SS g b n f 2 44 8 q_l1 13) : q_SX g b n (f + 1) 1 44 q_a1 13 := by
  intro dp i cs v r k I L lp tp Q h hT hl hd hk hQ
  obtain ⟨k, rfl⟩ : ∃ k', k = k' + 3 := ⟨k - 3, by omega⟩
  rw [q_p1] at h
  refine v_readTerm ?_
  rcases q_bd_some h with ⟨e, e1, e2⟩ | ⟨j, c, w, e1, e2⟩
  · refine hA dp i cs q_z _ k _ L lp tp _ e1 hT hl hd (by omega) ⟨fun e' he I' f' h9 => ?_, fun j c w hj => (by cases hj)⟩
    cases he
    exact ⟨0, rfl, by decide, fun z => absurd rfl z, fun _ => hQ.1 _ e2 _ f' h9⟩
  · refine hA dp i cs q_z _ k _ L lp tp _ e1 hT hl hd (by omega) ⟨fun e' he => (by cases he), fun j' c' w' hj I' f' T2 => ?_⟩
    cases hj
    have pk := q_p_pk b n f 0 dp i cs q_z j c w e1 (q_LT_i hT).1
    exact ⟨1, rfl, by decide, fun _ => hL dp j 0 c w r (k + 3) _ L lp tp Q e2 T2 (by have := pk.2.2.2.1; omega) (Nat.zero_le _) hd (by omega) (q_PO_tr hQ f'), fun z => absurd z (by decide)⟩
theorem s_readTermLoop {g : x_G} {b : Nat → Int} {n f : Nat} (hA : q_SX g b n f 0 45 q_a1 10) (hL : q_SS g b n f 2 44 8 q_l1 13) : q_SS g b n (f + 1) 2 44 8 q_l1 13 := by
  intro dp i c cs v r k I L lp tp Q h hT hl hc hd hk hQ
  obtain ⟨k, rfl⟩ : ∃ k', k = k' + 3 := ⟨k - 3, by omega⟩
  rw [q_p2] at h
  have t0 := q_LT_0 hT
  have ea := q_LT_at hT i
  have ep := q_LT_pb1 hT i
  have rt := q_tk_rg hT i
  obtain ⟨i1, i2, i3, i4⟩ := q_LT_i hT
  have step : ∀ o : Int, 0 ≤ q_tk b n i → q_bd (q_p b n f 0 dp (q_s b n (i + 1)) cs q_z) (fun j c w => q_p b n f 2 dp j (c ++ [o]) (q_j o v w)) = some r → x_X g k 45 (q_a1 dp) (x_u I 9 2 ((q_s b n (i + 1) : Nat) : Int), L, lp, tp) (fun rv w6 => ∃ z5, rv = [x_i z5] ∧ (x_rg z5) ∧ ((¬ z5 = 0 → x_X g k 23 [x_r 10, x_i o] w6 (fun rv w10 => ∃ z9, rv = [x_i z9] ∧ x_S g (k + 3) 44 Q 8 (q_l1 dp ((c : Int) + 1)) [] w10)) ∧ (z5 = 0 → Q [x_i 0] w6))) := by
    intro o hz hh
    obtain ⟨a1, a2, a3⟩ := q_s1 (b := b) (n := n) (i := i) hz
    have T1 := q_LT_mv hT a3
    rcases q_bd_some hh with ⟨e, e1, e2⟩ | ⟨j, c1, w, e1, e2⟩
    · refine hA dp _ cs q_z _ k _ L lp tp _ e1 T1 (by omega) hd (by omega) ⟨fun e' he I' f' h9 => ?_, fun j c w hj => (by cases hj)⟩
      cases he
      exact ⟨0, rfl, by decide, fun z => absurd rfl z, fun _ => hQ.1 _ e2 _ (x_fr_trans (q_fr9 _ _) f') h9⟩
    · obtain ⟨p1, p2, p3, p4, p5⟩ := q_p_pk b n f 0 dp _ cs q_z j c1 w e1 a3
      have := p5 (by omega)
      refine hA dp _ cs q_z _ k _ L lp tp _ e1 T1 (by omega) hd (by omega) ⟨fun e' he => (by cases he), fun j' c' w' hj I' f' T2 => ?_⟩
      cases hj
      refine ⟨1, rfl, by decide, fun _ => x_le (show 1 ≤ k by omega) (s_lput (k := 0) T2 (by omega) fun I3 f3 T3 => ⟨_, rfl, ?_⟩), fun z => absurd z (by decide)⟩
      exact hL dp j (c + 1) _ _ r (k + 3) _ L lp tp Q e2 T3 (by rw [List.length_append, List.length_singleton]; omega) (by omega) hd (by omega) (q_PO_tr hQ (x_fr_trans (x_fr_trans (q_fr9 _ _) f') f3))
  refine v_readTerm_L8 ⟨⟨by omega, by omega⟩, fun q => ?_, fun q => ⟨t0, ?_⟩⟩
  · have hz : q_tk b n i = -1 := if_neg (by omega)
    rw [if_neg (by omega), if_neg (by omega)] at h
    cases h
    exact hQ.2 _ _ _ rfl _ (x_fr_refl _ _) hT
  · rw [i3, ea, ep]
    refine ⟨⟨by omega, by omega⟩, ⟨by omega, by omega⟩, fun q2 => ⟨⟨by omega, by omega⟩, ?_⟩, fun q2 => ⟨fun q3 => ?_, fun q3 => ⟨⟨by omega, by omega⟩, ?_⟩⟩⟩
    · rw [if_pos q2] at h; exact step _ (by omega) h
    · rw [if_neg q2, if_neg q3] at h
      cases h
      exact hQ.2 _ _ _ rfl _ (x_fr_refl _ _) hT
    · rw [if_neg q2, if_pos q3] at h; exact step _ (by omega) h
theorem s_readSum {g : x_G} {b : Nat → Int} {n f : Nat} (hA : q_SX g b n f 1 44 q_a1 13) (hL : q_SS g b n f 4 43 8 q_l1 16) : q_SX g b n (f + 1) 3 43 q_a1 16 := by
  intro dp i cs v r k I L lp tp Q h hT hl hd hk hQ
  obtain ⟨k, rfl⟩ : ∃ k', k = k' + 3 := ⟨k - 3, by omega⟩
  rw [q_p3] at h
  refine v_readSum ?_
  rcases q_bd_some h with ⟨e, e1, e2⟩ | ⟨j, c, w, e1, e2⟩
  · refine hA dp i cs q_z _ k _ L lp tp _ e1 hT hl hd (by omega) ⟨fun e' he I' f' h9 => ?_, fun j c w hj => (by cases hj)⟩
    cases he
    exact ⟨0, rfl, by decide, fun z => absurd rfl z, fun _ => hQ.1 _ e2 _ f' h9⟩
  · refine hA dp i cs q_z _ k _ L lp tp _ e1 hT hl hd (by omega) ⟨fun e' he => (by cases he), fun j' c' w' hj I' f' T2 => ?_⟩
    cases hj
    have pk := q_p_pk b n f 1 dp i cs q_z j c w e1 (q_LT_i hT).1
    exact ⟨1, rfl, by decide, fun _ => hL dp j 0 c w r (k + 3) _ L lp tp Q e2 T2 (by have := pk.2.2.2.1; omega) (Nat.zero_le _) hd (by omega) (q_PO_tr hQ f'), fun z => absurd z (by decide)⟩
theorem s_readSumLoop {g : x_G} {b : Nat → Int} {n f : Nat} (hA : q_SX g b n f 1 44 q_a1 13) (hL : q_SS g b n f 4 43 8 q_l1 16) : q_SS g b n (f + 1) 4 43 8 q_l1 16 := by
  intro dp i c cs v r k I L lp tp Q h hT hl hc hd hk hQ
  obtain ⟨k, rfl⟩ : ∃ k', k = k' + 3 := ⟨k - 3, by omega⟩
  rw [q_p4] at h
  have t0 := q_LT_0 hT
  have ea := q_LT_at hT i
  have ep := q_LT_pb1 hT i
  have rt := q_tk_rg hT i
  obtain ⟨i1, i2, i3, i4⟩ := q_LT_i hT
  have step : ∀ o : Int, 0 ≤ q_tk b n i → q_bd (q_p b n f 1 dp (q_s b n (i + 1)) cs q_z) (fun j c w => q_p b n f 4 dp j (c ++ [o]) (q_j o v w)) = some r → x_X g k 44 (q_a1 dp) (x_u I 9 2 ((q_s b n (i + 1) : Nat) : Int), L, lp, tp) (fun rv w6 => ∃ z5, rv = [x_i z5] ∧ (x_rg z5) ∧ ((¬ z5 = 0 → x_X g k 23 [x_r 10, x_i o] w6 (fun rv w10 => ∃ z9, rv = [x_i z9] ∧ x_S g (k + 3) 43 Q 8 (q_l1 dp ((c : Int) + 1)) [] w10)) ∧ (z5 = 0 → Q [x_i 0] w6))) := by
    intro o hz hh
    obtain ⟨a1, a2, a3⟩ := q_s1 (b := b) (n := n) (i := i) hz
    have T1 := q_LT_mv hT a3
    rcases q_bd_some hh with ⟨e, e1, e2⟩ | ⟨j, c1, w, e1, e2⟩
    · refine hA dp _ cs q_z _ k _ L lp tp _ e1 T1 (by omega) hd (by omega) ⟨fun e' he I' f' h9 => ?_, fun j c w hj => (by cases hj)⟩
      cases he
      exact ⟨0, rfl, by decide, fun z => absurd rfl z, fun _ => hQ.1 _ e2 _ (x_fr_trans (q_fr9 _ _) f') h9⟩
    · obtain ⟨p1, p2, p3, p4, p5⟩ := q_p_pk b n f 1 dp _ cs q_z j c1 w e1 a3
      have := p5 (by omega)
      refine hA dp _ cs q_z _ k _ L lp tp _ e1 T1 (by omega) hd (by omega) ⟨fun e' he => (by cases he), fun j' c' w' hj I' f' T2 => ?_⟩
      cases hj
      refine ⟨1, rfl, by decide, fun _ => x_le (show 1 ≤ k by omega) (s_lput (k := 0) T2 (by omega) fun I3 f3 T3 => ⟨_, rfl, ?_⟩), fun z => absurd z (by decide)⟩
      exact hL dp j (c + 1) _ _ r (k + 3) _ L lp tp Q e2 T3 (by rw [List.length_append, List.length_singleton]; omega) (by omega) hd (by omega) (q_PO_tr hQ (x_fr_trans (x_fr_trans (q_fr9 _ _) f') f3))
  refine v_readSum_L8 ⟨⟨by omega, by omega⟩, fun q => ?_, fun q => ⟨t0, ?_⟩⟩
  · have hz : q_tk b n i = -1 := if_neg (by omega)
    rw [if_neg (by omega), if_neg (by omega)] at h
    cases h
    exact hQ.2 _ _ _ rfl _ (x_fr_refl _ _) hT
  · rw [i3, ea, ep]
    refine ⟨⟨by omega, by omega⟩, ⟨by omega, by omega⟩, fun q2 => ⟨⟨by omega, by omega⟩, ?_⟩, fun q2 => ⟨fun q3 => ?_, fun q3 => ⟨⟨by omega, by omega⟩, ?_⟩⟩⟩
    · rw [if_pos q2] at h; exact step _ (by omega) h
    · rw [if_neg q2, if_neg q3] at h
      cases h
      exact hQ.2 _ _ _ rfl _ (x_fr_refl _ _) hT
    · rw [if_neg q2, if_pos q3] at h; exact step _ (by omega) h
theorem s_readTruth {g : x_G} {b : Nat → Int} {n f : Nat} (hA : q_SX g b n f 5 39 q_a2 20) (hL : q_SS g b n f 8 38 9 q_l2 23) : q_SX g b n (f + 1) 7 38 q_a2 23 := by
  intro dp i cs v r k I L lp tp Q h hT hl hd hk hQ
  obtain ⟨k, rfl⟩ : ∃ k', k = k' + 3 := ⟨k - 3, by omega⟩
  rw [q_p7] at h
  refine v_readTruth ?_
  rcases q_bd_some h with ⟨e, e1, e2⟩ | ⟨j, c, w, e1, e2⟩
  · refine hA dp i cs q_z _ k _ L lp tp _ e1 hT hl hd (by omega) ⟨fun e' he I' f' h9 => ?_, fun j c w hj => (by cases hj)⟩
    cases he
    exact ⟨0, rfl, by decide, fun z => absurd rfl z, fun _ => hQ.1 _ e2 _ f' h9⟩
  · refine hA dp i cs q_z _ k _ L lp tp _ e1 hT hl hd (by omega) ⟨fun e' he => (by cases he), fun j' c' w' hj I' f' T2 => ?_⟩
    cases hj
    have pk := q_p_pk b n f 5 dp i cs q_z j c w e1 (q_LT_i hT).1
    exact ⟨1, rfl, by decide, fun _ => hL dp j 0 c w r (k + 3) _ L lp tp Q e2 T2 (by have := pk.2.2.2.1; omega) (Nat.zero_le _) hd (by omega) (q_PO_tr hQ f'), fun z => absurd z (by decide)⟩
theorem s_readTruthLoop {g : x_G} {b : Nat → Int} {n f : Nat} (hA : q_SX g b n f 5 39 q_a2 20) (hL : q_SS g b n f 8 38 9 q_l2 23) : q_SS g b n (f + 1) 8 38 9 q_l2 23 := by
  intro dp i c cs v r k I L lp tp Q h hT hl hc hd hk hQ
  obtain ⟨k, rfl⟩ : ∃ k', k = k' + 3 := ⟨k - 3, by omega⟩
  rw [q_p8] at h
  have t0 := q_LT_0 hT
  have ea := q_LT_at hT i
  have ep := q_LT_pb1 hT i
  have rt := q_tk_rg hT i
  obtain ⟨i1, i2, i3, i4⟩ := q_LT_i hT
  have step : ∀ o : Int, 0 ≤ q_tk b n i → q_bd (q_p b n f 5 dp (q_s b n (i + 1)) cs q_z) (fun j c w => q_p b n f 8 dp j (c ++ [o]) (q_j o v w)) = some r → x_X g k 39 (q_a2 dp) (x_u I 9 2 ((q_s b n (i + 1) : Nat) : Int), L, lp, tp) (fun rv w6 => ∃ z5, rv = [x_i z5] ∧ (x_rg z5) ∧ ((¬ z5 = 0 → x_X g k 23 [x_r 10, x_i o] w6 (fun rv w10 => ∃ z9, rv = [x_i z9] ∧ x_S g (k + 3) 38 Q 9 (q_l2 dp ((c : Int) + 1)) [] w10)) ∧ (z5 = 0 → Q [x_i 0] w6))) := by
    intro o hz hh
    obtain ⟨a1, a2, a3⟩ := q_s1 (b := b) (n := n) (i := i) hz
    have T1 := q_LT_mv hT a3
    rcases q_bd_some hh with ⟨e, e1, e2⟩ | ⟨j, c1, w, e1, e2⟩
    · refine hA dp _ cs q_z _ k _ L lp tp _ e1 T1 (by omega) hd (by omega) ⟨fun e' he I' f' h9 => ?_, fun j c w hj => (by cases hj)⟩
      cases he
      exact ⟨0, rfl, by decide, fun z => absurd rfl z, fun _ => hQ.1 _ e2 _ (x_fr_trans (q_fr9 _ _) f') h9⟩
    · obtain ⟨p1, p2, p3, p4, p5⟩ := q_p_pk b n f 5 dp _ cs q_z j c1 w e1 a3
      have := p5 (by omega)
      refine hA dp _ cs q_z _ k _ L lp tp _ e1 T1 (by omega) hd (by omega) ⟨fun e' he => (by cases he), fun j' c' w' hj I' f' T2 => ?_⟩
      cases hj
      refine ⟨1, rfl, by decide, fun _ => x_le (show 1 ≤ k by omega) (s_lput (k := 0) T2 (by omega) fun I3 f3 T3 => ⟨_, rfl, ?_⟩), fun z => absurd z (by decide)⟩
      exact hL dp j (c + 1) _ _ r (k + 3) _ L lp tp Q e2 T3 (by rw [List.length_append, List.length_singleton]; omega) (by omega) hd (by omega) (q_PO_tr hQ (x_fr_trans (x_fr_trans (q_fr9 _ _) f') f3))
  refine v_readTruth_L9 ⟨⟨by omega, by omega⟩, fun q => ?_, fun q => ⟨t0, ?_⟩⟩
  · have hz : q_tk b n i = -1 := if_neg (by omega)
    rw [if_neg (by omega)] at h
    cases h
    exact hQ.2 _ _ _ rfl _ (x_fr_refl _ _) hT
  · rw [i3, ea, ep]
    refine ⟨⟨by omega, by omega⟩, ⟨by omega, by omega⟩, fun q2 => ?_, fun q2 => ⟨⟨by omega, by omega⟩, ?_⟩⟩
    · rw [if_neg q2] at h
      cases h
      exact hQ.2 _ _ _ rfl _ (x_fr_refl _ _) hT
    · rw [if_pos q2] at h; exact step _ (by omega) h
theorem s_readCondition {g : x_G} {b : Nat → Int} {n f : Nat} (hA : q_SX g b n f 7 38 q_a2 23) (hL : q_SS g b n f 10 37 9 q_l2 26) : q_SX g b n (f + 1) 9 37 q_a2 26 := by
  intro dp i cs v r k I L lp tp Q h hT hl hd hk hQ
  obtain ⟨k, rfl⟩ : ∃ k', k = k' + 3 := ⟨k - 3, by omega⟩
  rw [q_p9] at h
  refine v_readCondition ?_
  rcases q_bd_some h with ⟨e, e1, e2⟩ | ⟨j, c, w, e1, e2⟩
  · refine hA dp i cs q_z _ k _ L lp tp _ e1 hT hl hd (by omega) ⟨fun e' he I' f' h9 => ?_, fun j c w hj => (by cases hj)⟩
    cases he
    exact ⟨0, rfl, by decide, fun z => absurd rfl z, fun _ => hQ.1 _ e2 _ f' h9⟩
  · refine hA dp i cs q_z _ k _ L lp tp _ e1 hT hl hd (by omega) ⟨fun e' he => (by cases he), fun j' c' w' hj I' f' T2 => ?_⟩
    cases hj
    have pk := q_p_pk b n f 7 dp i cs q_z j c w e1 (q_LT_i hT).1
    exact ⟨1, rfl, by decide, fun _ => hL dp j 0 c w r (k + 3) _ L lp tp Q e2 T2 (by have := pk.2.2.2.1; omega) (Nat.zero_le _) hd (by omega) (q_PO_tr hQ f'), fun z => absurd z (by decide)⟩
theorem s_readConditionLoop {g : x_G} {b : Nat → Int} {n f : Nat} (hA : q_SX g b n f 7 38 q_a2 23) (hL : q_SS g b n f 10 37 9 q_l2 26) : q_SS g b n (f + 1) 10 37 9 q_l2 26 := by
  intro dp i c cs v r k I L lp tp Q h hT hl hc hd hk hQ
  obtain ⟨k, rfl⟩ : ∃ k', k = k' + 3 := ⟨k - 3, by omega⟩
  rw [q_p10] at h
  have t0 := q_LT_0 hT
  have ea := q_LT_at hT i
  have ep := q_LT_pb1 hT i
  have rt := q_tk_rg hT i
  obtain ⟨i1, i2, i3, i4⟩ := q_LT_i hT
  have step : ∀ o : Int, 0 ≤ q_tk b n i → q_bd (q_p b n f 7 dp (q_s b n (i + 1)) cs q_z) (fun j c w => q_p b n f 10 dp j (c ++ [o]) (q_j o v w)) = some r → x_X g k 38 (q_a2 dp) (x_u I 9 2 ((q_s b n (i + 1) : Nat) : Int), L, lp, tp) (fun rv w6 => ∃ z5, rv = [x_i z5] ∧ (x_rg z5) ∧ ((¬ z5 = 0 → x_X g k 23 [x_r 10, x_i o] w6 (fun rv w10 => ∃ z9, rv = [x_i z9] ∧ x_S g (k + 3) 37 Q 9 (q_l2 dp ((c : Int) + 1)) [] w10)) ∧ (z5 = 0 → Q [x_i 0] w6))) := by
    intro o hz hh
    obtain ⟨a1, a2, a3⟩ := q_s1 (b := b) (n := n) (i := i) hz
    have T1 := q_LT_mv hT a3
    rcases q_bd_some hh with ⟨e, e1, e2⟩ | ⟨j, c1, w, e1, e2⟩
    · refine hA dp _ cs q_z _ k _ L lp tp _ e1 T1 (by omega) hd (by omega) ⟨fun e' he I' f' h9 => ?_, fun j c w hj => (by cases hj)⟩
      cases he
      exact ⟨0, rfl, by decide, fun z => absurd rfl z, fun _ => hQ.1 _ e2 _ (x_fr_trans (q_fr9 _ _) f') h9⟩
    · obtain ⟨p1, p2, p3, p4, p5⟩ := q_p_pk b n f 7 dp _ cs q_z j c1 w e1 a3
      have := p5 (by omega)
      refine hA dp _ cs q_z _ k _ L lp tp _ e1 T1 (by omega) hd (by omega) ⟨fun e' he => (by cases he), fun j' c' w' hj I' f' T2 => ?_⟩
      cases hj
      refine ⟨1, rfl, by decide, fun _ => x_le (show 1 ≤ k by omega) (s_lput (k := 0) T2 (by omega) fun I3 f3 T3 => ⟨_, rfl, ?_⟩), fun z => absurd z (by decide)⟩
      exact hL dp j (c + 1) _ _ r (k + 3) _ L lp tp Q e2 T3 (by rw [List.length_append, List.length_singleton]; omega) (by omega) hd (by omega) (q_PO_tr hQ (x_fr_trans (x_fr_trans (q_fr9 _ _) f') f3))
  refine v_readCondition_L9 ⟨⟨by omega, by omega⟩, fun q => ?_, fun q => ⟨t0, ?_⟩⟩
  · have hz : q_tk b n i = -1 := if_neg (by omega)
    rw [if_neg (by omega)] at h
    cases h
    exact hQ.2 _ _ _ rfl _ (x_fr_refl _ _) hT
  · rw [i3, ea, ep]
    refine ⟨⟨by omega, by omega⟩, ⟨by omega, by omega⟩, fun q2 => ?_, fun q2 => ⟨⟨by omega, by omega⟩, ?_⟩⟩
    · rw [if_neg q2] at h
      cases h
      exact hQ.2 _ _ _ rfl _ (x_fr_refl _ _) hT
    · rw [if_pos q2] at h; exact step _ (by omega) h
theorem s_cmp {g : x_G} {b : Nat → Int} {n f : Nat} (hA : q_SX g b n f 3 43 q_a1 16) : q_SC g b n (f + 1) := by
  intro dp i cs v r k I L lp tp Q h hT hl hd hk hQ
  rw [q_p6] at h
  have t0 := q_LT_0 hT
  have ea := q_LT_at hT i
  have ep := q_LT_pb1 hT i
  have rt := q_tk_rg hT i
  obtain ⟨i1, i2, i3, i4⟩ := q_LT_i hT
  have step : ∀ o : Int, q_cs (q_tk b n i) = o → ¬ o = -1 → x_X g k 43 (q_a1 dp) (x_u I 9 2 ((q_s b n (i + 1) : Nat) : Int), L, lp, tp) (fun rv w6 => ∃ z5, rv = [x_i z5] ∧ (x_rg z5) ∧ ((¬ z5 = 0 → x_X g k 23 [x_r 10, x_i o] w6 (fun rv w10 => ∃ z9, rv = [x_i z9] ∧ Q [x_i 1] w10)) ∧ (z5 = 0 → Q [x_i 0] w6))) := by
    intro o ho ho1
    rw [ho, if_neg ho1] at h
    obtain ⟨a1, a2, a3⟩ := q_s1 (b := b) (n := n) (i := i) (q_cs_nn (by rw [ho]; exact ho1))
    have T1 := q_LT_mv hT a3
    rcases q_bd_some h with ⟨e, e1, e2⟩ | ⟨j, c1, w, e1, e2⟩
    · refine hA dp _ cs q_z _ k _ L lp tp _ e1 T1 (by omega) hd (by omega) ⟨fun e' he I' f' h9 => ?_, fun j c w hj => (by cases hj)⟩
      cases he
      exact ⟨0, rfl, by decide, fun z => absurd rfl z, fun _ => hQ.1 _ e2 _ (x_fr_trans (q_fr9 _ _) f') h9⟩
    · obtain ⟨p1, p2, p3, p4, p5⟩ := q_p_pk b n f 3 dp _ cs q_z j c1 w e1 a3
      have := p5 (by omega)
      refine hA dp _ cs q_z _ k _ L lp tp _ e1 T1 (by omega) hd (by omega) ⟨fun e' he => (by cases he), fun j' c' w' hj I' f' T2 => ?_⟩
      cases hj
      cases e2
      exact ⟨1, rfl, by decide, fun _ => x_le (show 1 ≤ k by omega) (s_lput (k := 0) T2 (by omega) fun I3 f3 T3 => ⟨_, rfl, hQ.2 _ _ _ rfl _ (x_fr_trans (x_fr_trans (q_fr9 _ _) f') f3) T3⟩), fun z => absurd z (by decide)⟩
  unfold q_cmpP
  rw [i3, ea, ep]
  refine ⟨t0, ⟨by omega, by omega⟩, ⟨by omega, by omega⟩, fun q => ⟨⟨by omega, by omega⟩, ?_⟩, fun q => ⟨⟨by omega, by omega⟩, ?_⟩, fun q => ⟨⟨by omega, by omega⟩, ?_⟩, fun q => ?_⟩
  · exact step 15 (by rw [q]; rfl) (by decide)
  · exact step 14 (by rw [q]; rfl) (by decide)
  · exact step 16 (by rw [q]; rfl) (by decide)
  · have : q_cs (q_tk b n i) = -1 := by unfold q_cs; rw [if_neg q.2.1, if_neg q.1, if_neg q.2.2]
    rw [if_pos this] at h
    cases h
    exact hQ.1 _ rfl _ (x_fr_refl _ _) i3
theorem s_unitB {g : x_G} {b : Nat → Int} {n f dp i : Nat} {cs : List Int} {v : q_LV} {r : Nat ⊕ (Nat × List Int × q_LV)} {k : Nat} {I L : Nat → Nat → Int} {lp tp : Nat} {Q : x_Q} (hC : q_SC g b n f) (h : q_p b n f 6 dp i cs v = some r) (hT : q_LT I b n i cs) (hl : cs.length ≤ i) (hd : dp ≤ 6) (hk : 20 + 12 * (6 - dp) ≤ k) (hQ : q_PO b n Q I L lp tp r) : x_X g k 39 (q_a3 dp) (I, L, lp, tp) Q := by
  obtain ⟨k, rfl⟩ : ∃ k', k = k' + 4 := ⟨k - 4, by omega⟩
  exact v_readUnit ⟨by decide, fun _ => hC dp i cs v r k I L lp tp Q h hT hl hd (by omega) hQ, fun q => absurd q (by decide)⟩
theorem s_readNot {g : x_G} {b : Nat → Int} {n f : Nat} (hU : q_SX g b n f 5 39 q_a2 20) {dp i : Nat} {cs : List Int} {v : q_LV} {r : Nat ⊕ (Nat × List Int × q_LV)} {k : Nat} {I L : Nat → Nat → Int} {lp tp : Nat} {Q : x_Q} (h : q_p b n (f + 1) 5 dp i cs v = some r) (hz : q_tk b n i = 33) (hT : q_LT I b n i cs) (hl : cs.length ≤ i) (hd : dp ≤ 6) (hk : 12 + 12 * (6 - dp) ≤ k) (hQ : q_PO b n Q I L lp tp r) : x_X g k 40 (q_a1 dp) (I, L, lp, tp) Q := by
  obtain ⟨k, rfl⟩ : ∃ k', k = k' + 4 := ⟨k - 4, by omega⟩
  rw [q_p5, if_pos hz] at h
  have t0 := q_LT_0 hT
  have ep := q_LT_pb1 hT i
  obtain ⟨i1, i2, i3, i4⟩ := q_LT_i hT
  obtain ⟨a1, a2, a3⟩ := q_s1 (b := b) (n := n) (i := i) (by omega)
  have T1 := q_LT_mv hT a3
  refine v_readNot ?_
  rw [i3, ep]
  refine ⟨⟨by omega, by omega⟩, fun q => ⟨t0, ⟨by omega, by omega⟩, ?_⟩, fun q => ?_⟩
  · rw [if_neg (by omega)] at h
    rcases q_bd_some h with ⟨e, e1, e2⟩ | ⟨j, c1, w, e1, e2⟩
    · refine hU (dp + 1) _ cs q_z _ k _ L lp tp _ e1 T1 (by omega) (by omega) (by omega) ⟨fun e' he I' f' h9 => ?_, fun j c w hj => (by cases hj)⟩
      cases he
      exact ⟨0, rfl, by decide, fun z => absurd rfl z, fun _ => hQ.1 _ e2 _ (x_fr_trans (q_fr9 _ _) f') h9⟩
    · obtain ⟨p1, p2, p3, p4, p5⟩ := q_p_pk b n f 5 (dp + 1) _ cs q_z j c1 w e1 a3
      have := p5 (by omega)
      refine hU (dp + 1) _ cs q_z _ k _ L lp tp _ e1 T1 (by omega) (by omega) (by omega) ⟨fun e' he => (by cases he), fun j' c' w' hj I' f' T2 => ?_⟩
      cases hj
      cases e2
      exact ⟨1, rfl, by decide, fun _ => x_le (show 1 ≤ k by omega) (s_lput (k := 0) T2 (by omega) fun I3 f3 T3 => ⟨_, rfl, hQ.2 _ _ _ rfl _ (x_fr_trans (x_fr_trans (q_fr9 _ _) f') f3) T3⟩), fun z => absurd z (by decide)⟩
  · rw [if_pos (by omega)] at h
    cases h
    exact hQ.1 _ rfl _ (x_fr_refl _ _) i3
theorem s_readUnit {g : x_G} {b : Nat → Int} {n f : Nat} (hU : q_SX g b n f 5 39 q_a2 20) (hD : q_SX g b n f 9 37 q_a2 26) (hS : q_SX g b n f 3 43 q_a1 16) (hC : q_SC g b n f) : q_SX g b n (f + 1) 5 39 q_a2 20 := by
  intro dp i cs v r k I L lp tp Q h hT hl hd hk hQ
  obtain ⟨k, rfl⟩ : ∃ k', k = k' + 4 := ⟨k - 4, by omega⟩
  have h' := h
  rw [q_p5] at h
  have t0 := q_LT_0 hT
  have ea := q_LT_at hT i
  have ep := q_LT_pb1 hT i
  have rt := q_tk_rg hT i
  obtain ⟨i1, i2, i3, i4⟩ := q_LT_i hT
  refine v_readUnit ⟨by decide, fun q => absurd rfl q, fun _ => ⟨t0, ?_⟩⟩
  rw [i3, ea, ep]
  refine ⟨⟨by omega, by omega⟩, ⟨by omega, by omega⟩, fun q => ⟨fun q2 => ?_, fun q2 => ⟨⟨by omega, by omega⟩, fun q3 => ⟨⟨by omega, by omega⟩, ?_⟩, fun q3 => ?_⟩⟩, fun q => ?_⟩
  · rw [if_neg q, if_neg q2] at h
    rcases q_bd_some h with ⟨e, e1, e2⟩ | ⟨j, c1, w, e1, e2⟩
    · refine hS dp _ cs q_z _ k _ L lp tp _ e1 hT hl hd (by omega) ⟨fun e' he I' f' h9 => ?_, fun j c w hj => (by cases hj)⟩
      cases he
      exact ⟨0, rfl, by decide, fun z => absurd rfl z, fun _ => hQ.1 _ e2 _ f' h9⟩
    · obtain ⟨p1, p2, p3, p4, p5⟩ := q_p_pk b n f 3 dp _ cs q_z j c1 w e1 i1
      refine hS dp _ cs q_z _ k _ L lp tp _ e1 hT hl hd (by omega) ⟨fun e' he => (by cases he), fun j' c' w' hj I' f' T2 => ?_⟩
      cases hj
      exact ⟨1, rfl, by decide, fun _ => hC dp j c1 w r k I' L lp tp Q e2 T2 (by omega) hd (by omega) (q_PO_tr hQ f'), fun z => absurd z (by decide)⟩
  · rw [if_neg q, if_pos q2, if_neg (by omega)] at h
    obtain ⟨a1, a2, a3⟩ := q_s1 (b := b) (n := n) (i := i) (by omega)
    have T1 := q_LT_mv hT a3
    rcases q_bd_some h with ⟨e, e1, e2⟩ | ⟨j, c, w, e1, e2⟩
    · refine hD (dp + 1) _ cs q_z _ k _ L lp tp _ e1 T1 (by omega) (by omega) (by omega) ⟨fun e' he I' f' h9 => ?_, fun j c w hj => (by cases hj)⟩
      cases he
      exact ⟨0, rfl, by decide, fun _ => hQ.1 _ e2 _ (x_fr_trans (q_fr9 _ _) f') h9, fun z => absurd rfl z⟩
    · refine hD (dp + 1) _ cs q_z _ k _ L lp tp _ e1 T1 (by omega) (by omega) (by omega) ⟨fun e' he => (by cases he), fun j' c' w' hj I' f' T2 => ?_⟩
      cases hj
      refine ⟨1, rfl, by decide, fun z => absurd z (by decide), fun _ => ⟨q_LT_0 T2, ?_⟩⟩
      have e9 := T2.2.2.2.2.2.1
      have rt2 := q_tk_rg T2 j
      dsimp only
      rw [e9, q_LT_at T2 j, q_LT_pb1 T2 j]
      have hj7 := T2.2.2.2.2.2.2.1
      refine ⟨⟨by omega, by omega⟩, ⟨by omega, by omega⟩, fun q3 => ⟨⟨by omega, by omega⟩, ?_⟩, fun q3 => ?_⟩
      · rw [if_pos q3] at e2
        cases e2
        exact hQ.2 _ _ _ rfl _ (x_fr_trans (x_fr_trans (q_fr9 _ _) f') (q_fr9 _ _)) (q_LT_mv T2 (q_s1 (b := b) (n := n) (i := j) (by omega)).2.2)
      · rw [if_neg q3] at e2
        cases e2
        exact hQ.1 _ rfl _ (x_fr_trans (q_fr9 _ _) f') e9
  · rw [if_neg q, if_pos q2, if_pos (by omega)] at h
    cases h
    exact hQ.1 _ rfl _ (x_fr_refl _ _) i3
  · exact s_readNot hU h' q hT hl hd (by omega) (q_PO_b hQ)
/-- all pieces -/
def q_SA (g : x_G) (b : Nat → Int) (n f : Nat) : Prop := q_SX g b n f 0 45 q_a1 10 ∧ q_SX g b n f 1 44 q_a1 13 ∧ q_SS g b n f 2 44 8 q_l1 13 ∧ q_SX g b n f 3 43 q_a1 16 ∧ q_SS g b n f 4 43 8 q_l1 16 ∧ q_SX g b n f 5 39 q_a2 20 ∧ q_SC g b n f ∧ q_SX g b n f 7 38 q_a2 23 ∧ q_SS g b n f 8 38 9 q_l2 23 ∧ q_SX g b n f 9 37 q_a2 26 ∧ q_SS g b n f 10 37 9 q_l2 26
theorem s_pieces (g : x_G) (b : Nat → Int) (n : Nat) : ∀ f, q_SA g b n f
  | 0 => by
    refine ⟨?_, ?_, ?_, ?_, ?_, ?_, ?_, ?_, ?_, ?_, ?_⟩
    all_goals first
      | (intro dp i cs v r k I L lp tp Q h; cases h)
      | (intro dp i c cs v r k I L lp tp Q h; cases h)
  | f + 1 => by
    obtain ⟨h0, h1, h2, h3, h4, h5, h6, h7, h8, h9, h10⟩ := s_pieces g b n f
    exact ⟨s_readAtom h3, s_readTerm h0 h2, s_readTermLoop h0 h2, s_readSum h1 h4, s_readSumLoop h1 h4, s_readUnit h5 h9 h3 h6, s_cmp h3, s_readTruth h5 h8, s_readTruthLoop h5 h8, s_readCondition h7 h10, s_readConditionLoop h7 h10⟩
