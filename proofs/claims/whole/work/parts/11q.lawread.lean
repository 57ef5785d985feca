/-! The class reads a law: clauses, the whole -/
def q_cB (b : Nat → Int) (n f j : Nat) (c : List Int) (v : q_LV) : q_PR := q_bd (q_bd (q_p b n f 6 0 j c v) fun j3 c3 v3 => q_p b n f 8 0 j3 c3 v3) fun j4 c4 v4 => q_p b n f 10 0 j4 c4 v4
theorem q_bc_bd (r : q_PR) (K1 : Nat → List Int → q_LV → q_PR) (K : Nat → List Int → q_LV → q_CR) : q_bc (q_bd r K1) K = q_bc r (fun j c w => q_bc (K1 j c w) K) := by
  match r with
  | none => rfl
  | some (.inl e) => rfl
  | some (.inr x) => rfl
theorem q_cB_bc (b : Nat → Int) (n f j : Nat) (c : List Int) (v : q_LV) (K : Nat → List Int → q_LV → q_CR) : q_bc (q_cB b n f j c v) K = q_bc (q_p b n f 6 0 j c v) fun j3 c3 v3 => q_bc (q_p b n f 8 0 j3 c3 v3) fun j4 c4 v4 => q_bc (q_p b n f 10 0 j4 c4 v4) K := by
  unfold q_cB
  rw [q_bc_bd, q_bc_bd]
theorem s_truthB {g : x_G} {b : Nat → Int} {n f i : Nat} {cs : List Int} {v : q_LV} {r : Nat ⊕ (Nat × List Int × q_LV)} {k : Nat} {I L : Nat → Nat → Int} {lp tp : Nat} {Q : x_Q} (h : (q_bd (q_p b n f 6 0 i cs v) fun j3 c3 v3 => q_p b n f 8 0 j3 c3 v3) = some r) (hT : q_LT I b n i cs) (hl : cs.length ≤ i) (hk : 95 ≤ k) (hQ : q_PO b n Q I L lp tp r) : x_X g k 38 [x_r 9, x_i 0, x_i 1] (I, L, lp, tp) Q := by
  obtain ⟨k, rfl⟩ : ∃ k', k = k' + 3 := ⟨k - 3, by omega⟩
  obtain ⟨h0, h1, h2, h3, h4, h5, h6, h7, h8, h9, h10⟩ := s_pieces g b n f
  refine v_readTruth ?_
  rcases q_bd_some h with ⟨e, e1, e2⟩ | ⟨j, c, w, e1, e2⟩
  · refine s_unitB h6 e1 hT hl (by decide) (by omega) ⟨fun e' he I' f' h9 => ?_, fun j c w hj => (by cases hj)⟩
    cases he
    exact ⟨0, rfl, by decide, fun z => absurd rfl z, fun _ => hQ.1 _ e2 _ f' h9⟩
  · refine s_unitB h6 e1 hT hl (by decide) (by omega) ⟨fun e' he => (by cases he), fun j' c' w' hj I' f' T2 => ?_⟩
    cases hj
    have pk := q_p_pk b n f 6 0 i cs v j c w e1 (q_LT_i hT).1
    exact ⟨1, rfl, by decide, fun _ => h8 0 j 0 c w r (k + 3) _ L lp tp Q e2 T2 (by have := pk.2.2.2.1; omega) (Nat.zero_le _) (by decide) (by omega) (q_PO_tr hQ f'), fun z => absurd z (by decide)⟩
theorem q_tB_pk {b : Nat → Int} {n f i : Nat} {cs : List Int} {v : q_LV} {j : Nat} {c : List Int} {w : q_LV} (h : (q_bd (q_p b n f 6 0 i cs v) fun j3 c3 v3 => q_p b n f 8 0 j3 c3 v3) = some (.inr (j, c, w))) (hi : i ≤ n) : i ≤ j ∧ j ≤ n ∧ c.length + i ≤ cs.length + j := by
  obtain ⟨j1, c1, w1, e1, e2⟩ := q_bd_ok h
  obtain ⟨p1, p2, -, p4, -⟩ := q_p_pk _ _ _ _ _ _ _ _ _ _ _ e1 hi
  obtain ⟨r1, r2, -, r4, -⟩ := q_p_pk _ _ _ _ _ _ _ _ _ _ _ e2 p2
  exact ⟨by omega, r2, by omega⟩
theorem q_cB_pk {b : Nat → Int} {n f i : Nat} {cs : List Int} {v : q_LV} {j : Nat} {c : List Int} {w : q_LV} (h : q_cB b n f i cs v = some (.inr (j, c, w))) (hi : i ≤ n) : i ≤ j ∧ j ≤ n ∧ c.length + i ≤ cs.length + j := by
  obtain ⟨j1, c1, w1, e1, e2⟩ := q_bd_ok h
  obtain ⟨p1, p2, p4⟩ := q_tB_pk e1 hi
  obtain ⟨r1, r2, -, r4, -⟩ := q_p_pk _ _ _ _ _ _ _ _ _ _ _ e2 p2
  exact ⟨by omega, r2, by omega⟩
theorem s_condB {g : x_G} {b : Nat → Int} {n f i : Nat} {cs : List Int} {v : q_LV} {r : Nat ⊕ (Nat × List Int × q_LV)} {k : Nat} {I L : Nat → Nat → Int} {lp tp : Nat} {Q : x_Q} (h : q_cB b n f i cs v = some r) (hT : q_LT I b n i cs) (hl : cs.length ≤ i) (hk : 98 ≤ k) (hQ : q_PO b n Q I L lp tp r) : x_X g k 37 [x_r 9, x_i 0, x_i 1] (I, L, lp, tp) Q := by
  obtain ⟨k, rfl⟩ : ∃ k', k = k' + 3 := ⟨k - 3, by omega⟩
  obtain ⟨h0, h1, h2, h3, h4, h5, h6, h7, h8, h9, h10⟩ := s_pieces g b n f
  refine v_readCondition ?_
  rcases q_bd_some h with ⟨e, e1, e2⟩ | ⟨j, c, w, e1, e2⟩
  · refine s_truthB e1 hT hl (by omega) ⟨fun e' he I' f' h9 => ?_, fun j c w hj => (by cases hj)⟩
    cases he
    exact ⟨0, rfl, by decide, fun z => absurd rfl z, fun _ => hQ.1 _ e2 _ f' h9⟩
  · refine s_truthB e1 hT hl (by omega) ⟨fun e' he => (by cases he), fun j' c' w' hj I' f' T2 => ?_⟩
    cases hj
    have pk := q_tB_pk e1 (q_LT_i hT).1
    exact ⟨1, rfl, by decide, fun _ => h10 0 j 0 c w r (k + 3) _ L lp tp Q e2 T2 (by omega) (Nat.zero_le _) (by decide) (by omega) (q_PO_tr hQ f'), fun z => absurd z (by decide)⟩
def q_PC (b : Nat → Int) (n : Nat) (Q : x_Q) (I L : Nat → Nat → Int) (lp tp : Nat) (r : Nat ⊕ (Nat × List Int × q_LV × q_LV)) : Prop := (∀ e, r = .inl e → ∀ I', x_fr q_fL I I' → I' 9 2 = (e : Int) → Q [x_i 0] (I', L, lp, tp)) ∧ (∀ j c v w, r = .inr (j, c, v, w) → ∀ I', x_fr q_fL I I' → q_LT I' b n j c → Q [x_i 1] (I', L, lp, tp))
theorem q_getD_set (l : List Int) (p x : Nat) (z : Int) (hp : p < l.length) : (l.set p z).getD x 0 = if x = p then z else l.getD x 0 := by
  by_cases h : x = p
  · subst h; rw [if_pos rfl]; simp [List.getD, hp]
  · rw [if_neg h]; simp [List.getD, List.getElem?_set_ne (Ne.symm h)]
theorem s_laim {g : x_G} {k : Nat} {Q : x_Q} {I L : Nat → Nat → Int} {lp tp : Nat} {b : Nat → Int} {n i p : Nat} {cs : List Int} (hT : q_LT I b n i cs) (hp : p < cs.length) (hl : cs.length ≤ 240) (hq : ∀ I', x_fr q_fL I I' → q_LT I' b n i (cs.set p (100000 + (cs.length : Int))) → Q [] (I', L, lp, tp)) : x_X g (k + 1) 24 [x_r 10, x_i (p : Int)] (I, L, lp, tp) Q := by
  have hc := hT.2.2.2.2.2.2.2
  have e := hc.1
  refine v_laim ?_
  rw [e]
  refine ⟨⟨by omega, by omega⟩, fun q => by omega, fun q => ⟨⟨by omega, by omega⟩, fun q2 => by omega, fun q2 => ⟨⟨by omega, by omega⟩, ?_⟩⟩⟩
  have f1 : x_fr q_fL I (x_u I 11 ((p : Int)).toNat (100000 + (cs.length : Int))) := x_fr_u (x_fr_refl _ _) (x_memI (11, 0, 240) (by simp) rfl (by simp) (by simp; omega))
  refine hq _ f1 (q_LT_fr hT f1 hT.2.2.2.2.2.1 hT.2.2.2.2.2.2.1 ⟨?_, fun x hx => ?_⟩)
  · rw [List.length_set]; exact e
  · rw [List.length_set] at hx
    rw [q_getD_set _ _ _ _ hp, x_u_eq, show ((p : Int)).toNat = p by omega]
    by_cases q : x = p
    · rw [if_pos ⟨rfl, q⟩, if_pos q]
    · rw [if_neg (fun z => q z.2), if_neg q]; exact hc.2 x hx
theorem s_readCase {g : x_G} {b : Nat → Int} {n f i : Nat} {cs : List Int} {bg : Int} {r0 : Nat ⊕ (Nat × List Int × q_LV)} {rc : Nat ⊕ (Nat × List Int × q_LV × q_LV)} {k : Nat} {I L : Nat → Nat → Int} {lp tp : Nat} {Q : x_Q} (hT : q_LT I b n i cs) (hcond : ∀ (k' : Nat) (Q' : x_Q), 98 ≤ k' → q_PO b n Q' I L lp tp r0 → x_X g k' 37 [x_r 9, x_i 0, x_i bg] (I, L, lp, tp) Q') (hr0 : ∀ j c w, r0 = .inr (j, c, w) → c.length + 2 ≤ j) (h : q_bc (some r0) (q_case b n f) = some rc) (hk : 102 ≤ k) (hQ : q_PC b n Q I L lp tp rc) : x_X g k 36 [x_r 9, x_i bg] (I, L, lp, tp) Q := by
  obtain ⟨k, rfl⟩ : ∃ k', k = k' + 4 := ⟨k - 4, by omega⟩
  obtain ⟨h0, h1, h2, h3, h4, h5, h6, h7, h8, h9, h10⟩ := s_pieces g b n f
  refine v_readCase (hcond k _ (by omega) ⟨fun e he I' f' h9 => ?_, fun j c w hj I1 f1 T1 => ?_⟩)
  · subst he
    cases h
    exact ⟨0, rfl, by decide, fun _ => hQ.1 _ rfl _ f' h9, fun z => absurd rfl z⟩
  · subst hj
    have h' : q_case b n f j c w = some rc := h
    have hl := hr0 j c w rfl
    have t1 := q_LT_0 T1
    have rt := q_tk_rg T1 j
    obtain ⟨i1, i2, i3, i4⟩ := q_LT_i T1
    refine ⟨1, rfl, by decide, fun z => absurd z (by decide), fun _ => ⟨t1, ?_⟩⟩
    dsimp only
    rw [i3, q_LT_at T1 j, q_LT_pb1 T1 j]
    unfold q_case at h'
    refine ⟨⟨by omega, by omega⟩, ⟨by omega, by omega⟩, fun q => ⟨⟨by omega, by omega⟩, ?_⟩, fun q => ?_⟩
    · rw [if_pos q] at h'
      obtain ⟨a1, a2, a3⟩ := q_s1 (b := b) (n := n) (i := j) (by omega)
      refine x_le (show 1 ≤ k by omega) (s_lput (k := 0) (q_LT_mv T1 a3) (by omega) fun I2 f2 T2 => ⟨_, rfl, ?_⟩)
      have fr2 : x_fr q_fL I I2 := x_fr_trans (x_fr_trans f1 (q_fr9 _ _)) f2
      match e : q_p b n f 3 0 (q_s b n (j + 1)) (c ++ [100000]) q_z, h' with
      | none, h' => cases h'
      | some (.inl e'), h' =>
        cases h'
        refine h3 0 _ _ q_z _ k _ L lp tp _ e T2 (by rw [List.length_append, List.length_singleton]; omega) (by decide) (by omega) ⟨fun e2 he I' f' h9 => ?_, fun j c w hj => (by cases hj)⟩
        cases he
        exact ⟨0, rfl, by decide, fun z => absurd rfl z, fun _ => hQ.1 _ rfl _ (x_fr_trans fr2 f') h9⟩
      | some (.inr (j2, c2, w2)), h' =>
        cases h'
        obtain ⟨p1, p2, ⟨d, p3⟩, p4, p5⟩ := q_p_pk _ _ _ _ _ _ _ _ _ _ _ e a3
        rw [List.length_append, List.length_singleton] at p4
        have hlen : c.length < c2.length := by rw [p3]; simp
        refine h3 0 _ _ q_z _ k _ L lp tp _ e T2 (by rw [List.length_append, List.length_singleton]; omega) (by decide) (by omega) ⟨fun e2 he => (by cases he), fun j' c' w' hj I3 f3 T3 => ?_⟩
        cases hj
        refine ⟨1, rfl, by decide, fun _ => x_le (show 1 ≤ k by omega) (s_lput (k := 0) T3 (by omega) fun I4 f4 T4 => ⟨_, rfl, ?_⟩), fun z => absurd z (by decide)⟩
        refine x_le (show 1 ≤ k by omega) (s_laim (k := 0) T4 (by rw [List.length_append]; omega) (by rw [List.length_append, List.length_singleton]; omega) fun I5 f5 T5 => ⟨rfl, ?_⟩)
        refine hQ.2 _ _ _ _ rfl _ (x_fr_trans (x_fr_trans (x_fr_trans fr2 f3) f4) f5) ?_
        rw [List.set_append_left _ _ hlen, List.length_append, List.length_singleton] at T5
        exact T5
    · rw [if_neg q] at h'
      cases h'
      exact hQ.1 _ rfl _ f1 i3
/-- a clause, and whether ; or the end stands behind it -/
def q_PE (b : Nat → Int) (n : Nat) (Q : x_Q) (I L : Nat → Nat → Int) (lp tp : Nat) (r : Nat ⊕ (Nat × List Int × q_LV × q_LV)) : Prop := (∀ e, r = .inl e → ∀ I', x_fr q_fL I I' → I' 9 2 = (e : Int) → Q [x_i 0] (I', L, lp, tp)) ∧ (∀ j c v w, r = .inr (j, c, v, w) → ∀ I', x_fr q_fL I I' → q_LT I' b n j c → (¬ (n ≤ j ∨ q_tk b n j = 59) → Q [x_i 0] (I', L, lp, tp)) ∧ ((n ≤ j ∨ q_tk b n j = 59) → Q [x_i 1] (I', L, lp, tp)))
theorem s_readClause {g : x_G} {b : Nat → Int} {n f i : Nat} {cs : List Int} {rc : Nat ⊕ (Nat × List Int × q_LV × q_LV)} {k : Nat} {I L : Nat → Nat → Int} {lp tp : Nat} {Q : x_Q} (hT : q_LT I b n i cs) (hl : cs.length ≤ i) (h : q_clause b n f i cs = some rc) (hk : 106 ≤ k) (hQ : q_PE b n Q I L lp tp rc) : x_X g k 34 [x_r 9] (I, L, lp, tp) Q := by
  obtain ⟨k, rfl⟩ : ∃ k', k = k' + 4 := ⟨k - 4, by omega⟩
  obtain ⟨h0, h1, h2, h3, h4, h5, h6, h7, h8, h9, h10⟩ := s_pieces g b n f
  have t0 := q_LT_0 hT
  obtain ⟨i1, i2, i3, i4⟩ := q_LT_i hT
  have rt := q_tk_rg hT i
  unfold q_clause at h
  have tail : ∀ (I' : Nat → Nat → Int) (j : Nat) (c : List Int) (v w : q_LV), rc = .inr (j, c, v, w) → x_fr q_fL I I' → q_LT I' b n j c → (x_rg (I' 9 2)) ∧ ((x_rg (I' 2 1)) ∧ (((I' 2 1) ≤ (I' 9 2) → Q [x_i 1] (I', L, lp, tp)) ∧ ((I' 9 2) < (I' 2 1) → (q_tk0 I') ∧ ((x_rg (q_at I' (I' 9 2))) ∧ ((¬ (q_at I' (I' 9 2)) = 59 → Q [x_i 0] (I', L, lp, tp)) ∧ ((q_at I' (I' 9 2)) = 59 → Q [x_i 1] (I', L, lp, tp))))))) := by
    intro I' j c v w hr hf T
    obtain ⟨j1, j2, j3, j4⟩ := q_LT_i T
    have rj := q_tk_rg T j
    obtain ⟨q1, q2⟩ := hQ.2 j c v w hr I' hf T
    rw [j3, j4, q_LT_at T j]
    exact ⟨⟨by omega, by omega⟩, ⟨by omega, by omega⟩, fun z => q2 (Or.inl (by omega)), fun z => ⟨q_LT_0 T, ⟨by omega, by omega⟩, fun z2 => q1 (by omega), fun z2 => q2 (Or.inr z2)⟩⟩
  refine v_readClause ?_
  rw [i3, q_LT_at hT i, q_LT_pb1 hT i, q_LT_at hT, q_LT_pb1 hT, q_LT_at hT]
  refine ⟨t0, ⟨by omega, by omega⟩, ⟨by omega, by omega⟩, fun q => ⟨⟨by omega, by omega⟩, ?_⟩, fun q => ?_⟩
  · rw [if_pos q] at h
    obtain ⟨a1, a2, a3⟩ := q_s1 (b := b) (n := n) (i := i) (by omega)
    have rt2 := q_tk_rg hT (q_s b n (i + 1))
    refine ⟨⟨by omega, by omega⟩, ⟨by omega, by omega⟩, fun q2 => ⟨⟨by omega, by omega⟩, ?_⟩, fun q2 => ?_⟩
    · rw [if_pos q2] at h
      obtain ⟨b1, b2, b3⟩ := q_s1 (b := b) (n := n) (i := q_s b n (i + 1)) (by omega)
      generalize hj : q_s b n (q_s b n (i + 1) + 1) = j at *
      have rt3 := q_tk_rg hT j
      rw [x_u_u]
      have T1 := q_LT_mv hT b3
      unfold q_cb at h
      have cse : (q_tk b n j = 33 ∨ q_tk b n j = 40) → x_X g k 36 [x_r 9, x_i 0] (x_u I 9 2 (j : Int), L, lp, tp) (fun rv w5 => ∃ z4, rv = [x_i z4] ∧ (x_rg z4) ∧ ((z4 = 0 → Q [x_i 0] w5) ∧ (¬ z4 = 0 → (x_rg (w5.1 9 2)) ∧ ((x_rg (w5.1 2 1)) ∧ (((w5.1 2 1) ≤ (w5.1 9 2) → Q [x_i 1] w5) ∧ ((w5.1 9 2) < (w5.1 2 1) → (q_tk0 w5.1) ∧ ((x_rg (q_at w5.1 (w5.1 9 2))) ∧ ((¬ (q_at w5.1 (w5.1 9 2)) = 59 → Q [x_i 0] w5) ∧ ((q_at w5.1 (w5.1 9 2)) = 59 → Q [x_i 1] w5))))))))) := by
        intro q3
        rw [if_pos q3] at h
        match e : q_p b n f 9 0 j cs q_z, h with
        | none, h => cases h
        | some r0, h =>
          refine s_readCase T1 (fun k' Q' hk' hq' => h9 0 j cs q_z r0 k' _ L lp tp Q' e T1 (by omega) (by decide) (by omega) hq') (fun j1 c1 w1 hr => ?_) h (by omega) ⟨fun e he I' f' h9 => ?_, fun j' c' v' w' hr I' f' T' => ?_⟩
          · subst hr
            obtain ⟨p1, p2, p3, p4, p5⟩ := q_p_pk _ _ _ _ _ _ _ _ _ _ _ e b3
            omega
          · exact ⟨0, rfl, by decide, fun _ => hQ.1 _ he _ (x_fr_trans (q_fr9 _ _) f') h9, fun z => absurd rfl z⟩
          · exact ⟨1, rfl, by decide, fun z => absurd z (by decide), fun _ => tail I' j' c' v' w' hr (x_fr_trans (q_fr9 _ _) f') T'⟩
      refine ⟨⟨by omega, by omega⟩, ⟨by omega, by omega⟩, fun q3 => cse (Or.inl q3), fun q3 => ⟨fun q4 => ?_, fun q4 => cse (Or.inr q4)⟩⟩
      rw [if_neg (by omega)] at h
      match e : q_p b n f 3 0 j cs q_z, h with
      | none, h => cases h
      | some (.inl e'), h =>
        cases h
        refine h3 0 _ _ q_z _ k _ L lp tp _ e T1 (by omega) (by decide) (by omega) ⟨fun e2 he I' f' h9 => ?_, fun j c w hj => (by cases hj)⟩
        cases he
        exact ⟨0, rfl, by decide, fun z => absurd rfl z, fun _ => hQ.1 _ rfl _ (x_fr_trans (q_fr9 _ _) f') h9⟩
      | some (.inr (j2, c2, w2)), h =>
        obtain ⟨p1, p2, p3, p4, p5⟩ := q_p_pk _ _ _ _ _ _ _ _ _ _ _ e b3
        refine h3 0 _ _ q_z _ k _ L lp tp _ e T1 (by omega) (by decide) (by omega) ⟨fun e2 he => (by cases he), fun j' c' w' hj' I3 f3 T3 => ?_⟩
        cases hj'
        have fr3 := x_fr_trans (q_fr9 I (j : Int)) f3
        refine ⟨1, rfl, by decide, fun _ => ⟨q_LT_0 T3, ?_⟩, fun z => absurd z (by decide)⟩
        obtain ⟨l1, l2, l3, l4⟩ := q_LT_i T3
        have rt4 := q_tk_rg T3 j2
        dsimp only
        rw [l3, q_LT_at T3 j2]
        have h' : (if q_cs (q_tk b n j2) = -1 then some (.inr (j2, c2 ++ [20], q_one, w2)) else q_bc (q_p b n f 6 0 j2 c2 w2) fun j3 c3 v3 => q_bc (q_p b n f 8 0 j3 c3 v3) fun j4 c4 v4 => q_bc (q_p b n f 10 0 j4 c4 v4) (q_case b n f)) = some rc := h
        have sgn : ¬ q_cs (q_tk b n j2) = -1 → x_X g k 36 [x_r 9, x_i 1] (I3, L, lp, tp) (fun rv w5 => ∃ z4, rv = [x_i z4] ∧ (x_rg z4) ∧ ((z4 = 0 → Q [x_i 0] w5) ∧ (¬ z4 = 0 → (x_rg (w5.1 9 2)) ∧ ((x_rg (w5.1 2 1)) ∧ (((w5.1 2 1) ≤ (w5.1 9 2) → Q [x_i 1] w5) ∧ ((w5.1 9 2) < (w5.1 2 1) → (q_tk0 w5.1) ∧ ((x_rg (q_at w5.1 (w5.1 9 2))) ∧ ((¬ (q_at w5.1 (w5.1 9 2)) = 59 → Q [x_i 0] w5) ∧ ((q_at w5.1 (w5.1 9 2)) = 59 → Q [x_i 1] w5))))))))) := by
          intro q5
          rw [if_neg q5, ← q_cB_bc] at h'
          match e2 : q_cB b n f j2 c2 w2, h' with
          | none, h' => cases h'
          | some r0, h' =>
            refine s_readCase T3 (fun k' Q' hk' hq' => s_condB e2 T3 (by omega) hk' hq') (fun j1 c1 w1 hr => ?_) h' (by omega) ⟨fun e he I' f' h9 => ?_, fun j' c' v' w' hr I' f' T' => ?_⟩
            · subst hr
              have := q_cB_pk e2 p2
              omega
            · exact ⟨0, rfl, by decide, fun _ => hQ.1 _ he _ (x_fr_trans fr3 f') h9, fun z => absurd rfl z⟩
            · exact ⟨1, rfl, by decide, fun z => absurd z (by decide), fun _ => tail I' j' c' v' w' hr (x_fr_trans fr3 f') T'⟩
        refine ⟨⟨by omega, by omega⟩, ⟨by omega, by omega⟩, fun q5 => sgn (by rw [q5]; decide), fun q5 => sgn (by rw [q5]; decide), fun q5 => sgn (by rw [q5]; decide), fun q5 => ?_⟩
        rw [if_pos (by unfold q_cs; rw [if_neg q5.2.1, if_neg q5.1, if_neg q5.2.2])] at h'
        cases h'
        exact x_le (show 1 ≤ k by omega) (s_lput (k := 0) T3 (by omega) fun I4 f4 T4 => ⟨_, rfl, tail I4 _ _ _ _ rfl (x_fr_trans fr3 f4) T4⟩)
    · rw [if_neg q2] at h
      cases h
      exact hQ.1 _ rfl _ (q_fr9 _ _) (x_u_same _ _ _ _)
  · rw [if_neg q] at h
    cases h
    exact hQ.1 _ rfl _ (x_fr_refl _ _) i3
theorem s_lread_L {g : x_G} {b : Nat → Int} {n f : Nat} {L : Nat → Nat → Int} {lp tp : Nat} {Q : x_Q} {k : Nat} (hk : 106 ≤ k) : ∀ (m i c : Nat) (cs : List Int) (a : q_AV) (r : Nat ⊕ (List Int × q_AV)) (I : Nat → Nat → Int), q_lw b n f m i cs a = some r → q_LT I b n i cs → cs.length ≤ i → c ≤ i → (∀ e, r = .inl e → ∀ I', x_fr q_fL I I' → Q [x_i (e : Int)] (I', L, lp, tp)) → (∀ C a', r = .inr (C, a') → ∀ I', x_fr q_fL I I' → q_Cd I' C → Q [x_i (-1)] (I', L, lp, tp)) → x_S g (k + 3) 30 Q 11 [x_r 9, x_i (c : Int)] [] (I, L, lp, tp)
  | 0, i, c, cs, a, r, I, h, _, _, _, _, _ => by cases h
  | m + 1, i, c, cs, a, r, I, h, hT, hl, hc, q1, q2 => by
    obtain ⟨i1, i2, i3, i4⟩ := q_LT_i hT
    rw [q_lw_s] at h
    refine v_lread_L11 ⟨⟨by omega, by omega⟩, fun q => by omega, fun q => ?_⟩
    match e : q_clause b n f i cs, h with
    | none, h => cases h
    | some (.inl e'), h =>
      cases h
      refine s_readClause hT hl e hk ⟨fun e2 he I' f' h9 => ?_, fun j c v w hj => (by cases hj)⟩
      cases he
      refine ⟨0, rfl, by decide, fun z => absurd rfl z, fun _ => ?_⟩
      dsimp only
      rw [h9]
      exact q1 _ rfl _ f'
    | some (.inr (j, c1, v, w)), h =>
      obtain ⟨p1, p2, p3, p4, -⟩ := q_clause_ok e i1
      dsimp only at h
      refine s_readClause hT hl e hk ⟨fun e2 he => (by cases he), fun j' c' v' w' hj I' f' T => ?_⟩
      cases hj
      obtain ⟨j1, j2, j3, j4⟩ := q_LT_i T
      refine ⟨fun q3 => ?_, fun q3 => ?_⟩
      · rw [if_neg (by omega), if_neg (by omega)] at h
        cases h
        refine ⟨0, rfl, by decide, fun z => absurd rfl z, fun _ => ?_⟩
        dsimp only
        rw [j3]
        exact q1 _ rfl _ f'
      · refine ⟨1, rfl, by decide, fun _ => ?_, fun z => absurd z (by decide)⟩
        dsimp only
        rw [j3, j4, q_LT_pb1 T j]
        refine ⟨⟨by omega, by omega⟩, ⟨by omega, by omega⟩, fun z => ⟨q_LT_0 T, ⟨by omega, by omega⟩, ?_⟩, fun z => ?_⟩
        · rw [if_neg (by omega), if_pos (by omega)] at h
          obtain ⟨s1, s2, s3⟩ := q_s1 (b := b) (n := n) (i := j) (by omega)
          exact s_lread_L hk m _ (c + 1) _ _ r _ h (q_LT_mv T s3) (by omega) (by omega) (fun e he I2 f2 => q1 e he I2 (x_fr_trans (x_fr_trans f' (q_fr9 _ _)) f2)) (fun C a' he I2 f2 => q2 C a' he I2 (x_fr_trans (x_fr_trans f' (q_fr9 _ _)) f2))
        · rw [if_pos (by omega)] at h
          cases h
          exact q2 _ _ rfl _ f' T.2.2.2.2.2.2.2
/-- LawText.read -/
theorem s_lread {g : x_G} {b : Nat → Int} {n : Nat} {I L : Nat → Nat → Int} {lp tp : Nat} {Q : x_Q} {k : Nat} {r : Nat ⊕ (List Int × q_AV)} (hk : 109 ≤ k) (h3 : I 3 = b) (h2 : I 2 1 = (n : Int)) (hn : n ≤ 240) (hb : ∀ k, k < n → 1 ≤ b k ∧ b k ≤ 255) (hs : q_str I) (h : q_rl b n = some r) (q1 : ∀ e, r = .inl e → ∀ I', x_fr q_fL I I' → Q [x_i (e : Int)] (I', L, lp, tp)) (q2 : ∀ C a', r = .inr (C, a') → ∀ I', x_fr q_fL I I' → q_Cd I' C → Q [x_i (-1)] (I', L, lp, tp)) : x_X g k 30 [x_r 9] (I, L, lp, tp) Q := by
  obtain ⟨k, rfl⟩ : ∃ k', k = k' + 3 := ⟨k - 3, by omega⟩
  have f0 : x_fr q_fL I (x_u (x_u I 10 2 0) 9 2 ((q_s b n 0 : Nat) : Int)) := x_fr_u (x_fr_u (x_fr_refl _ _) rfl) rfl
  have hT : q_LT (x_u (x_u I 10 2 0) 9 2 ((q_s b n 0 : Nat) : Int)) b n (q_s b n 0) [] := ⟨h3, h2, hn, hb, hs, x_u_same _ _ _ _, q_s_le (Nat.zero_le _), rfl, fun x hx => absurd hx (Nat.not_lt_zero _)⟩
  have t0 : q_tk0 I := ⟨by omega, by omega, fun k hk => by rw [h3]; exact hb k (by omega)⟩
  have ep : q_pb I 0 = ((q_s b n 0 : Nat) : Int) := by unfold q_pb; rw [h3, h2]; rfl
  refine v_lread ⟨t0, ?_⟩
  rw [ep]
  exact s_lread_L (by omega) 241 _ 0 [] _ r _ h hT (Nat.zero_le _) (Nat.zero_le _) (fun e he I2 f2 => q1 e he I2 (x_fr_trans f0 f2)) (fun C a' he I2 f2 => q2 C a' he I2 (x_fr_trans f0 f2))
