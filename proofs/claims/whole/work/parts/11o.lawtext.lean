/-! The class reads a law -/
abbrev q_fL : List (Nat × Nat × Nat) := [(9, 2, 3), (10, 2, 3), (11, 0, 240)]
def q_Cd (I : Nat → Nat → Int) (cs : List Int) : Prop := I 10 2 = (cs.length : Int) ∧ ∀ x, x < cs.length → I 11 x = cs.getD x 0
/-- reading: bytes b, n of them, at i; code so far cs -/
def q_LT (I : Nat → Nat → Int) (b : Nat → Int) (n i : Nat) (cs : List Int) : Prop := I 3 = b ∧ I 2 1 = (n : Int) ∧ n ≤ 240 ∧ (∀ k, k < n → 1 ≤ b k ∧ b k ≤ 255) ∧ q_str I ∧ I 9 2 = (i : Int) ∧ i ≤ n ∧ q_Cd I cs
theorem q_LT_0 {I : Nat → Nat → Int} {b : Nat → Int} {n i : Nat} {cs : List Int} (h : q_LT I b n i cs) : q_tk0 I := by
  obtain ⟨h1, h2, h3, h4, -⟩ := h
  refine ⟨by omega, by omega, fun k hk => ?_⟩
  rw [h1]; exact h4 k (by omega)
theorem q_LT_at {I : Nat → Nat → Int} {b : Nat → Int} {n i : Nat} {cs : List Int} (h : q_LT I b n i cs) (j : Nat) : q_at I (j : Int) = q_tk b n j := by
  obtain ⟨h1, h2, h3, h4, -⟩ := h
  unfold q_at q_tk
  rw [h1, h2]
  by_cases q : j < n
  · rw [if_pos (by omega), if_pos q]; rfl
  · rw [if_neg (by omega), if_neg q]
theorem q_LT_pb {I : Nat → Nat → Int} {b : Nat → Int} {n i : Nat} {cs : List Int} (h : q_LT I b n i cs) (j : Nat) : q_pb I (j : Int) = ((q_s b n j : Nat) : Int) := by
  obtain ⟨h1, h2, -⟩ := h
  unfold q_pb
  rw [h1, h2]; rfl
theorem q_LT_pb1 {I : Nat → Nat → Int} {b : Nat → Int} {n i : Nat} {cs : List Int} (h : q_LT I b n i cs) (j : Nat) : q_pb I ((j : Int) + 1) = ((q_s b n (j + 1) : Nat) : Int) := q_LT_pb h (j + 1)
theorem q_tk_rg {I : Nat → Nat → Int} {b : Nat → Int} {n i : Nat} {cs : List Int} (h : q_LT I b n i cs) (j : Nat) : -1 ≤ q_tk b n j ∧ q_tk b n j ≤ 255 := by
  unfold q_tk
  by_cases q : j < n
  · rw [if_pos q]; have := h.2.2.2.1 j q; omega
  · rw [if_neg q]; omega
theorem q_LT_fr {I I' : Nat → Nat → Int} {b : Nat → Int} {n i j : Nat} {cs c : List Int} (h : q_LT I b n i cs) (hf : x_fr q_fL I I') (h9 : I' 9 2 = (j : Int)) (hj : j ≤ n) (hc : q_Cd I' c) : q_LT I' b n j c := by
  obtain ⟨h1, h2, h3, h4, h5, h6, h7, h8⟩ := h
  refine ⟨?_, (hf 2 1 rfl).trans h2, h3, h4, ?_, h9, hj, hc⟩
  · rw [← h1]; funext k; exact hf 3 k rfl
  · obtain ⟨⟨a1, a2, a3, a4⟩, a5, ⟨b1, b2, b3, b4, b5, b6⟩, ⟨c1, c2, c3, c4⟩, d1, d2, d3, d4, d5⟩ := h5
    have e := fun a k (hm : x_mem q_fL a k = false) => hf a k hm
    exact ⟨⟨(e _ _ rfl).trans a1, (e _ _ rfl).trans a2, (e _ _ rfl).trans a3, (e _ _ rfl).trans a4⟩, (e _ _ rfl).trans a5, ⟨(e _ _ rfl).trans b1, (e _ _ rfl).trans b2, (e _ _ rfl).trans b3, (e _ _ rfl).trans b4, (e _ _ rfl).trans b5, (e _ _ rfl).trans b6⟩, ⟨(e _ _ rfl).trans c1, (e _ _ rfl).trans c2, (e _ _ rfl).trans c3, (e _ _ rfl).trans c4⟩, (e _ _ rfl).trans d1, (e _ _ rfl).trans d2, (e _ _ rfl).trans d3, (e _ _ rfl).trans d4, (e _ _ rfl).trans d5⟩
theorem q_LT_mv {I : Nat → Nat → Int} {b : Nat → Int} {n i : Nat} {cs : List Int} (h : q_LT I b n i cs) {j : Nat} (hj : j ≤ n) : q_LT (x_u I 9 2 (j : Int)) b n j cs := q_LT_fr h (x_fr_u (x_fr_refl _ _) rfl) (x_u_same _ _ _ _) hj h.2.2.2.2.2.2.2
theorem q_fr9 (I : Nat → Nat → Int) (z : Int) : x_fr q_fL I (x_u I 9 2 z) := x_fr_u (x_fr_refl _ _) rfl
def q_PO (b : Nat → Int) (n : Nat) (Q : x_Q) (I L : Nat → Nat → Int) (lp tp : Nat) (r : Nat ⊕ (Nat × List Int × q_LV)) : Prop := (∀ e, r = .inl e → ∀ I', x_fr q_fL I I' → I' 9 2 = (e : Int) → Q [x_i 0] (I', L, lp, tp)) ∧ (∀ j c w, r = .inr (j, c, w) → ∀ I', x_fr q_fL I I' → q_LT I' b n j c → Q [x_i 1] (I', L, lp, tp))
theorem q_PO_tr {b : Nat → Int} {n : Nat} {Q : x_Q} {I I1 L : Nat → Nat → Int} {lp tp : Nat} {r : Nat ⊕ (Nat × List Int × q_LV)} (h : q_PO b n Q I L lp tp r) (hf : x_fr q_fL I I1) : q_PO b n Q I1 L lp tp r := ⟨fun e he I' f' h9 => h.1 e he I' (x_fr_trans hf f') h9, fun j c w hj I' f' hT => h.2 j c w hj I' (x_fr_trans hf f') hT⟩
theorem q_PO_b {b : Nat → Int} {n : Nat} {Q : x_Q} {I L : Nat → Nat → Int} {lp tp : Nat} {r : Nat ⊕ (Nat × List Int × q_LV)} (h : q_PO b n Q I L lp tp r) : q_PO b n (fun rv w => ∃ z, rv = [x_i z] ∧ (z = 0 ∨ z = 1) ∧ Q [x_i z] w) I L lp tp r := ⟨fun e he I' f' h9 => ⟨0, rfl, Or.inl rfl, h.1 e he I' f' h9⟩, fun j c w hj I' f' hT => ⟨1, rfl, Or.inr rfl, h.2 j c w hj I' f' hT⟩⟩
theorem q_bd_some {r0 : q_PR} {K : Nat → List Int → q_LV → q_PR} {r : Nat ⊕ (Nat × List Int × q_LV)} (h : q_bd r0 K = some r) : (∃ e, r0 = some (.inl e) ∧ r = .inl e) ∨ ∃ j c w, r0 = some (.inr (j, c, w)) ∧ K j c w = some r := by
  match r0, h with
  | none, h => cases h
  | some (.inl e'), h => cases h; exact Or.inl ⟨e', rfl, rfl⟩
  | some (.inr (j, c, w)), h => exact Or.inr ⟨j, c, w, rfl, h⟩
theorem s_lput {g : x_G} {k : Nat} {Q : x_Q} {I L : Nat → Nat → Int} {lp tp : Nat} {b : Nat → Int} {n i : Nat} {cs : List Int} {s : Int} (hT : q_LT I b n i cs) (hl : cs.length < 240) (hq : ∀ I', x_fr q_fL I I' → q_LT I' b n i (cs ++ [s]) → Q [x_i (cs.length : Int)] (I', L, lp, tp)) : x_X g (k + 1) 23 [x_r 10, x_i s] (I, L, lp, tp) Q := by
  have hc := hT.2.2.2.2.2.2.2
  have e := hc.1
  refine v_lput ?_
  rw [e]
  refine ⟨⟨by omega, by omega⟩, fun q => by omega, fun q => ⟨⟨by omega, by omega⟩, ?_⟩⟩
  rw [show (cs.length : Int) + 1 - 1 = (cs.length : Int) by omega]
  have f1 : x_fr q_fL I (x_u (x_u I 11 (cs.length : Int).toNat s) 10 2 ((cs.length : Int) + 1)) := x_fr_u (x_fr_u (x_fr_refl _ _) (x_memI (11, 0, 240) (by simp) rfl (by simp) (by simp; omega))) rfl
  refine hq _ f1 (q_LT_fr hT f1 hT.2.2.2.2.2.1 hT.2.2.2.2.2.2.1 ⟨?_, fun x hx => ?_⟩)
  · rw [x_u_same, List.length_append]; rfl
  · rw [List.length_append, List.length_singleton] at hx
    rw [x_u_ne _ _ (by omega), x_u_eq, q_getD_app, show (cs.length : Int).toNat = cs.length by omega]
    by_cases q : x = cs.length
    · rw [if_pos ⟨rfl, q⟩, if_pos q]
    · rw [if_neg (fun z => q z.2), if_neg q]; exact hc.2 x (by omega)
/-- a number, or no atom -/
def q_nr (b : Nat → Int) (n i : Nat) (cs : List Int) : Nat ⊕ (Nat × List Int × q_LV) := if q_dg b n 5 i = 0 then .inl i else if q_dg b n 5 i = 5 then .inl (i + 4) else .inr (q_s b n (i + q_dg b n 5 i), cs ++ [100 + q_nv b i (q_dg b n 5 i)], fun _ => q_nv b i (q_dg b n 5 i))
theorem s_lnum {g : x_G} {k : Nat} {Q : x_Q} {I L : Nat → Nat → Int} {lp tp : Nat} {b : Nat → Int} {n i : Nat} {cs : List Int} (hT : q_LT I b n i cs) (hl : cs.length ≤ i) (hq : q_PO b n Q I L lp tp (q_nr b n i cs)) : x_X g (k + 4) 46 [x_r 9] (I, L, lp, tp) Q := by
  have t0 := q_LT_0 hT
  obtain ⟨h1, h2, h3, h4, h5, h6, h7, h8⟩ := hT
  have hT : q_LT I b n i cs := ⟨h1, h2, h3, h4, h5, h6, h7, h8⟩
  have ed : q_dgI I (i : Int) 5 = ((q_dg b n 5 i : Nat) : Int) := by unfold q_dgI; rw [h1, h2]; rfl
  have d0 := q_dg_le b n 5 i
  have d1 := q_dg_n b n 5 i h7
  unfold q_nr at hq
  refine v_lreadNumber (k := k + 1) ?_
  rw [h6, ed, h2]
  refine ⟨t0, ⟨by omega, by omega⟩, ⟨by omega, by omega⟩, fun q => ?_, fun q => ?_⟩
  · rw [if_neg (by omega)] at hq
    refine ⟨fun q2 => ⟨⟨by omega, by omega⟩, ?_⟩, fun q2 => ?_⟩
    · rw [if_neg (by omega)] at hq
      have en : q_nvI I (i : Int) ((q_dg b n 5 i : Nat) : Int) = q_nv b i (q_dg b n 5 i) := by unfold q_nvI; rw [h1]; rfl
      rw [en]
      refine s_lput hT (by omega) fun I1 f1 T1 => ⟨_, rfl, q_LT_0 T1, ?_⟩
      have e9 := T1.2.2.2.2.2.1
      dsimp only
      have ep := q_LT_pb T1 (i + q_dg b n 5 i)
      rw [e9, show (i : Int) + ((q_dg b n 5 i : Nat) : Int) = ((i + q_dg b n 5 i : Nat) : Int) by omega, ep]
      exact ⟨⟨by omega, by omega⟩, hq.2 _ _ _ rfl _ (x_fr_trans f1 (q_fr9 _ _)) (q_LT_mv T1 (q_s_le d1))⟩
    · rw [if_pos (by omega)] at hq
      exact hq.1 _ rfl _ (q_fr9 _ _) (x_u_same _ _ _ _)
  · rw [if_pos (by omega)] at hq
    exact hq.1 _ rfl _ (x_fr_refl _ _) h6
def q_SX (g : x_G) (b : Nat → Int) (n f tag mid : Nat) (ar : Nat → List x_V) (base : Nat) : Prop := ∀ (dp i : Nat) (cs : List Int) (v : q_LV) (r : Nat ⊕ (Nat × List Int × q_LV)) (k : Nat) (I L : Nat → Nat → Int) (lp tp : Nat) (Q : x_Q), q_p b n f tag dp i cs v = some r → q_LT I b n i cs → cs.length ≤ i → dp ≤ 6 → base + 12 * (6 - dp) ≤ k → q_PO b n Q I L lp tp r → x_X g k mid (ar dp) (I, L, lp, tp) Q
def q_SS (g : x_G) (b : Nat → Int) (n f tag mid pc : Nat) (ls : Nat → Int → List x_V) (base : Nat) : Prop := ∀ (dp i c : Nat) (cs : List Int) (v : q_LV) (r : Nat ⊕ (Nat × List Int × q_LV)) (k : Nat) (I L : Nat → Nat → Int) (lp tp : Nat) (Q : x_Q), q_p b n f tag dp i cs v = some r → q_LT I b n i cs → cs.length ≤ i → c ≤ i → dp ≤ 6 → base + 12 * (6 - dp) ≤ k → q_PO b n Q I L lp tp r → x_S g k mid Q pc (ls dp (c : Int)) [] (I, L, lp, tp)
abbrev q_a1 (dp : Nat) : List x_V := [x_r 9, x_i (dp : Int)]
abbrev q_a2 (dp : Nat) : List x_V := [x_r 9, x_i (dp : Int), x_i 0]
abbrev q_a3 (dp : Nat) : List x_V := [x_r 9, x_i (dp : Int), x_i 1]
abbrev q_l1 (dp : Nat) (c : Int) : List x_V := [x_r 9, x_i (dp : Int), x_i c, x_n]
abbrev q_l2 (dp : Nat) (c : Int) : List x_V := [x_r 9, x_i (dp : Int), x_n, x_i c]
theorem s_readAtom {g : x_G} {b : Nat → Int} {n f : Nat} (hS : q_SX g b n f 3 43 q_a1 16) : q_SX g b n (f + 1) 0 45 q_a1 10 := by
  intro dp i cs v r k I L lp tp Q h hT hl hd hk hQ
  obtain ⟨k, rfl⟩ : ∃ k', k = k' + 6 := ⟨k - 6, by omega⟩
  rw [q_p0] at h
  have t0 := q_LT_0 hT
  have ea := q_LT_at hT i
  have ep := q_LT_pb1 hT i
  have rt := q_tk_rg hT i
  obtain ⟨h1, h2, h3, h4, h5, h6, h7, h8⟩ := hT
  have hT : q_LT I b n i cs := ⟨h1, h2, h3, h4, h5, h6, h7, h8⟩
  refine v_readAtom ?_
  rw [h6, h2, ea, ep]
  have num : ¬ q_tk b n i = 91 → ¬ 0 ≤ q_li (q_tk b n i) → r = q_nr b n i cs := by
    intro q1 q2
    rw [if_neg q1, if_neg q2] at h
    unfold q_nr
    by_cases q3 : q_dg b n 5 i = 0
    · rw [if_pos q3] at h ⊢; cases h; rfl
    · rw [if_neg q3] at h ⊢
      by_cases q4 : q_dg b n 5 i = 5
      · rw [if_pos q4] at h ⊢; cases h; rfl
      · rw [if_neg q4] at h ⊢; cases h; rfl
  refine ⟨t0, ⟨by omega, by omega⟩, ⟨by omega, by omega⟩, fun q => ⟨⟨by omega, by omega⟩, fun q2 => ?_, fun q2 => ?_⟩, fun q => ⟨⟨by omega, by omega⟩, fun q2 => ?_, fun q2 => ?_⟩⟩
  · have hz : q_tk b n i = -1 := if_neg (by omega)
    rw [num q (by rw [hz]; decide)] at hQ
    exact x_le (show 4 ≤ k by omega) (s_lnum (k := 0) hT hl (q_PO_b hQ))
  · have hz : q_tk b n i % 65536 = q_tk b n i := by
      have : q_tk b n i = b i := if_pos (by omega)
      have := h4 i (by omega)
      omega
    rw [hz]
    have hix := q_ixl_rg (q_strs 5101) 0 (q_tk b n i) (by decide)
    refine ⟨h5, ⟨by have : q_tk b n i = b i := if_pos (by omega)
                    have := h4 i (by omega)
                    omega, by omega⟩, ?_, fun q3 => ?_, fun q3 => ?_⟩
    · have e : (q_strs 5101).length = 6 := rfl
      have : q_ix 5101 (q_tk b n i) = q_ixl (q_strs 5101) 0 (q_tk b n i) := rfl
      rcases hix with z | z <;> constructor <;> omega
    · rw [num q (by show ¬ 0 ≤ q_ix 5101 _; omega)] at hQ
      exact x_le (show 4 ≤ k by omega) (s_lnum (k := 0) hT hl (q_PO_b hQ))
    · rw [if_neg q, if_pos q3] at h
      cases h
      refine x_le (show 1 ≤ k by omega) (s_lput (k := 0) hT (by omega) fun I1 f1 T1 => ⟨_, rfl, q_LT_0 T1, ?_⟩)
      have e9 := T1.2.2.2.2.2.1
      dsimp only
      rw [e9, q_LT_pb1 T1 i]
      exact ⟨⟨by omega, by omega⟩, hQ.2 _ _ _ rfl _ (x_fr_trans f1 (q_fr9 _ _)) (q_LT_mv T1 (q_s_le (by omega)))⟩
  · rw [if_pos q, if_neg (by omega)] at h
    obtain ⟨a1, a2, a3⟩ := q_s1 (b := b) (n := n) (i := i) (by omega)
    refine ⟨⟨by omega, by omega⟩, ?_⟩
    have T1 := q_LT_mv hT a3
    have pk := fun j c w e => q_p_pk b n f 3 (dp + 1) (q_s b n (i + 1)) cs q_z j c w e a3
    rcases q_bd_some h with ⟨e, e1, e2⟩ | ⟨j, c, w, e1, e2⟩
    · refine hS (dp + 1) _ cs q_z _ k _ L lp tp _ e1 T1 (by omega) (by omega) (by omega) ⟨fun e' he I' f' h9 => ?_, fun j c w hj => by cases hj⟩
      cases he
      exact ⟨0, rfl, by decide, fun _ => hQ.1 _ e2 _ (x_fr_trans (q_fr9 _ _) f') h9, fun z => absurd rfl z⟩
    · refine hS (dp + 1) _ cs q_z _ k _ L lp tp _ e1 T1 (by omega) (by omega) (by omega) ⟨fun e' he => (by cases he), fun j' c' w' hj I' f' T2 => ?_⟩
      cases hj
      refine ⟨1, rfl, by decide, fun z => absurd z (by decide), fun _ => ⟨q_LT_0 T2, ?_⟩⟩
      have e9 := T2.2.2.2.2.2.1
      have rt2 := q_tk_rg T2 j
      dsimp only
      rw [e9, q_LT_at T2 j, q_LT_pb1 T2 j]
      have hj7 := T2.2.2.2.2.2.2.1
      refine ⟨⟨by omega, by omega⟩, ⟨by omega, by omega⟩, fun q3 => ⟨⟨by omega, by omega⟩, ?_⟩, fun q3 => ?_⟩
      · rw [if_pos q3] at e2
        cases e2
        exact hQ.2 _ _ _ rfl _ (x_fr_trans (x_fr_trans (q_fr9 _ _) f') (q_fr9 _ _)) (q_LT_mv T2 (q_s1 (b := b) (n := n) (i := j) (by omega)).2.2)
      · rw [if_neg q3] at e2
        cases e2
        exact hQ.1 _ rfl _ (x_fr_trans (q_fr9 _ _) f') e9
  · rw [if_pos q, if_pos (by omega)] at h
    cases h
    exact hQ.1 _ rfl _ (x_fr_refl _ _) h6
