/-! The reference reads a law: terms, sums, conditions -/
def q_cmpM (g : x_G) (k : Nat) (z : Int) (Q : x_Q) (I L : Nat → Nat → Int) (lp tp : Nat) : Prop := (x_rg (I 179 11)) ∧ (((I 179 11) = (-1) → (q_lk0 I tp) ∧ ((x_rg (q_lkV I tp)) ∧ (((q_lkV I tp) = 61 → x_X g k 202 [x_r 179] ((x_u (x_u I 179 10 (q_lkA I tp)) 179 10 ((q_lkA I tp) + 1)), L, lp, tp) (fun rv w37 => ∃ z36, rv = [x_i z36] ∧ (x_rg z) ∧ ((x_rg z36) ∧ ((¬ z = z36 → Q [x_i 0] w37) ∧ (z = z36 → Q [x_i 1] w37))))) ∧ (¬ (q_lkV I tp) = 61 → ((q_lkV I tp) = 60 → x_X g k 202 [x_r 179] ((x_u (x_u I 179 10 (q_lkA I tp)) 179 10 ((q_lkA I tp) + 1)), L, lp, tp) (fun rv w44 => ∃ z43, rv = [x_i z43] ∧ (x_rg z) ∧ ((x_rg z43) ∧ ((z43 ≤ z → Q [x_i 0] w44) ∧ (z < z43 → Q [x_i 1] w44))))) ∧ (¬ (q_lkV I tp) = 60 → (¬ (q_lkV I tp) = 62 → x_X g k 195 [x_r 179] ((x_u I 179 10 (q_lkA I tp)), L, lp, tp) (fun rv w53 => ∃ z52, rv = [x_i z52] ∧ (z52 = 0 ∨ z52 = 1) ∧ (Q [x_i z52] w53))) ∧ ((q_lkV I tp) = 62 → x_X g k 202 [x_r 179] ((x_u (x_u I 179 10 (q_lkA I tp)) 179 10 ((q_lkA I tp) + 1)), L, lp, tp) (fun rv w56 => ∃ z55, rv = [x_i z55] ∧ (x_rg z) ∧ ((x_rg z55) ∧ ((z ≤ z55 → Q [x_i 0] w56) ∧ (z55 < z → Q [x_i 1] w56)))))))))) ∧ (¬ (I 179 11) = (-1) → Q [x_i 0] (I, L, lp, tp)))
abbrev q_m1 (z : Int) : List x_V := [x_r 179, x_i z, x_n, x_n, x_n]
abbrev q_m2 (z : Int) : List x_V := [x_r 179, x_n, x_n, x_i z, x_n]
theorem q_PM_tag {b : Nat → Int} {n : Nat} {lt : Nat → Int} {dp : Nat} {Q : x_Q} {I L : Nat → Nat → Int} {lp tp t t' : Nat} {r : Nat ⊕ (Nat × List Int × q_LV)} (h : q_PM b n lt dp Q I L lp tp t r) (ht : 5 ≤ t → 5 ≤ t') : q_PM b n lt dp Q I L lp tp t' r := ⟨fun e he z I' hz f' h9 => h.1 e he z I' ⟨hz.1, fun q => hz.2 (ht q)⟩ f' h9, h.2⟩
def q_MC (g : x_G) (b : Nat → Int) (n : Nat) (lt : Nat → Int) (f : Nat) : Prop := ∀ (dp i a : Nat) (cs : List Int) (v : q_LV) (r : Nat ⊕ (Nat × List Int × q_LV)) (k : Nat) (I L : Nat → Nat → Int) (lp tp : Nat) (Q : x_Q), q_p b n f 6 dp i cs v = some r → q_MB I tp b n lt → q_MA I b n a i dp → dp ≤ 6 → q_m6 (v lt) → 14 + 10 * (6 - dp) ≤ k → q_PM b n lt dp Q I L lp tp 6 r → q_cmpM g k (v lt) Q I L lp tp
theorem m_term {g : x_G} {b : Nat → Int} {n : Nat} {lt : Nat → Int} {f : Nat} (hlt : ∀ j, j < 6 → q_m6 (lt j)) (hA : q_MX g b n lt f 0 200 [x_r 179] 10) (hL : q_MS g b n lt f 2 201 3 q_m1 12) : q_MX g b n lt (f + 1) 1 201 [x_r 179] 12 := by
  intro dp i a cs v r k I L lp tp Q h hB hM hd hk hQ
  obtain ⟨k, rfl⟩ : ∃ k', k = k' + 2 := ⟨k - 2, by omega⟩
  obtain ⟨l0, lA, lV, li, r1, r2, -⟩ := q_ML hB hM
  have hn := hB.2.2.2.1
  rw [q_p1] at h
  refine v_term ?_
  rcases q_bd_some h with ⟨e, e1, e2⟩ | ⟨j, c, w, e1, e2⟩
  · have he := q_p_er _ _ _ _ _ _ _ _ _ e1 li
    refine hA dp i a cs q_z _ k _ L lp tp _ e1 hB hM hd (by omega) ⟨fun e' he' z I' hz f' h11 => ?_, fun j c w hj => (by cases hj)⟩
    cases he'
    refine ⟨z, rfl, v_term_L3 ?_⟩
    rw [h11]
    exact ⟨⟨by omega, by omega⟩, fun _ => (hQ.1 _ e2 z _ ⟨hz.1, fun q => hz.2 (by omega)⟩ f' h11), fun q => by omega⟩
  · have hx := (q_p_ex b n lt hlt f 0 dp i cs q_z j c w e1 hd ⟨by omega, by omega⟩).1
    refine hA dp i a cs q_z _ k _ L lp tp _ e1 hB hM hd (by omega) ⟨fun e' he' => (by cases he'), fun j' c' w' hj I' a' f' A' => ?_⟩
    cases hj
    exact ⟨_, rfl, hL dp j a' c w r (k + 2) I' L lp tp Q e2 (q_MB_fr hB f') A' hd ⟨fun _ => hx.1, fun q => hx.2 (by omega)⟩ (by omega) (q_PM_tag (q_PM_tr hQ f') (by omega))⟩
theorem m_termLoop {g : x_G} {b : Nat → Int} {n : Nat} {lt : Nat → Int} {f : Nat} (hlt : ∀ j, j < 6 → q_m6 (lt j)) (hA : q_MX g b n lt f 0 200 [x_r 179] 10) (hL : q_MS g b n lt f 2 201 3 q_m1 12) : q_MS g b n lt (f + 1) 2 201 3 q_m1 12 := by
  intro dp i a cs v r k I L lp tp Q h hB hM hd hv hk hQ
  obtain ⟨k, rfl⟩ : ∃ k', k = k' + 2 := ⟨k - 2, by omega⟩
  obtain ⟨l0, lA, lV, li, r1, r2, -⟩ := q_ML hB hM
  have hn := hB.2.2.2.1
  have vm : q_m6 (v lt) := hv.1 (by omega)
  rw [q_p2] at h
  have ex : ∀ (e : Nat) (y : Int) (I' : Nat → Nat → Int), r = .inl e → q_ou 2 y → e ≤ 240 → x_fr q_fM I I' → I' 179 11 = (e : Int) → x_S g (k + 2) 201 Q 3 (q_m1 y) [] (I', L, lp, tp) := by
    intro e y I' he hy he2 f' h11
    refine v_term_L3 ?_
    rw [h11]
    exact ⟨⟨by omega, by omega⟩, fun _ => (hQ.1 _ he y _ hy f' h11), fun q => by omega⟩
  have stp : ∀ (o : Int) (K : x_Q), 0 ≤ q_tk b n i → q_bd (q_p b n f 0 dp (q_s b n (i + 1)) cs q_z) (fun j c w => q_p b n f 2 dp j (c ++ [o]) (q_j o v w)) = some r → (∀ (e : Nat) (z : Int) (I' : Nat → Nat → Int), r = .inl e → q_ou 0 z → e ≤ 240 → x_fr q_fM I I' → I' 179 11 = (e : Int) → K [x_i z] (I', L, lp, tp)) → (∀ (w : q_LV), q_ou 0 (w lt) → ∀ I', x_fr q_fM I I' → (q_in 2 (q_jn o (v lt) (w lt)) → x_S g (k + 2) 201 Q 3 (q_m1 (q_jn o (v lt) (w lt))) [] (I', L, lp, tp)) → K [x_i (w lt)] (I', L, lp, tp)) → x_X g k 200 [x_r 179] (x_u I 179 10 ((i : Int) + 1), L, lp, tp) K := by
    intro o K hz hh k1 k2
    obtain ⟨a1, a2, a3⟩ := q_s1 (b := b) (n := n) (i := i) hz
    have M1 := q_MA_at (c := i + 1) hM (by omega)
    have B1 := q_MB_fr hB (q_fM10 I ((i + 1 : Nat) : Int))
    rcases q_bd_some hh with ⟨e, e1, e2⟩ | ⟨j, c, w, e1, e2⟩
    · have he := q_p_er _ _ _ _ _ _ _ _ _ e1 a3
      refine hA dp _ (i + 1) cs q_z _ k _ L lp tp _ e1 B1 M1 hd (by omega) ⟨fun e' he' z I' hz f' h11 => ?_, fun j c w hj => (by cases hj)⟩
      cases he'
      exact k1 _ z I' e2 hz (by omega) (x_fr_trans (q_fM10 _ _) f') h11
    · have hx := (q_p_ex b n lt hlt f 0 dp _ cs q_z j c w e1 hd ⟨by omega, by omega⟩).1
      refine hA dp _ (i + 1) cs q_z _ k _ L lp tp _ e1 B1 M1 hd (by omega) ⟨fun e' he' => (by cases he'), fun j' c' w' hj I' a' f' A' => ?_⟩
      cases hj
      have fr := x_fr_trans (q_fM10 I ((i + 1 : Nat) : Int)) f'
      exact k2 w hx I' fr (fun hin => hL dp j a' _ _ r (k + 2) I' L lp tp Q e2 (q_MB_fr hB fr) A' hd hin (by omega) (q_PM_tr hQ fr))
  refine v_term_L3 ?_
  rw [hM.2.2.2.1, lA, lV, x_u_u]
  refine ⟨by decide, fun q => absurd rfl q, fun _ => ⟨l0, ⟨by omega, by omega⟩, fun q2 => ?_, fun q2 => ⟨fun q3 => ?_, fun q3 => ?_⟩⟩⟩
  · rw [if_pos q2] at h
    refine stp 12 _ (by omega) h (fun e z I' he hz he2 f' h11 => ?_) (fun w hw I' f' hs => ?_)
    · have hm := q_mul_rg vm hz.1
      have hz1 := hz.1
      exact ⟨z, rfl, ⟨by omega, by omega⟩, ⟨by omega, by omega⟩, ⟨by omega, by omega⟩, ⟨by omega, by omega⟩, ex e _ I' he ⟨⟨by omega, by omega⟩, by omega⟩ he2 f' h11⟩
    · have hm := q_mul_rg vm hw.1
      have hw1 := hw.1
      have ev : max (-1000000) (min 1000000 (v lt * w lt)) = q_jn 12 (v lt) (w lt) := by show _ = q_cl6 _; unfold q_cl6; rw [Int.min_comm]
      refine ⟨_, rfl, ⟨by omega, by omega⟩, ⟨by omega, by omega⟩, ⟨by omega, by omega⟩, ⟨by omega, by omega⟩, ?_⟩
      rw [ev]
      exact hs ⟨fun _ => q_jn_rg vm hw.1, by omega⟩
  · rw [if_neg q2, if_neg q3] at h
    cases h
    exact (hQ.2 _ _ _ rfl _ i (q_fM10 _ _) (q_MA_st hM))
  · rw [if_neg q2, if_pos q3] at h
    refine stp 13 _ (by omega) h (fun e z I' he hz he2 f' h11 => ?_) (fun w hw I' f' hs => ?_)
    · have hz1 := hz.1
      have hd1 := q_tdiv_rg (r := z) vm
      obtain ⟨-, -, -, -, c5, c6⟩ := x_cmpl (x := z) (y := 0)
      exact ⟨z, rfl, ⟨by omega, by omega⟩, c6, fun q => ⟨⟨by omega, by omega⟩, fun z0 => q (c5.mpr z0), ⟨by omega, by omega⟩, ⟨by omega, by omega⟩, ex e _ I' he ⟨⟨by omega, by omega⟩, by omega⟩ he2 f' h11⟩, fun q => ⟨by decide, ex e _ I' he ⟨⟨by decide, by decide⟩, by omega⟩ he2 f' h11⟩⟩
    · have hw1 := hw.1
      have hd1 := q_tdiv_rg (r := w lt) vm
      obtain ⟨-, -, -, -, c5, c6⟩ := x_cmpl (x := w lt) (y := 0)
      have hs' := hs ⟨fun _ => q_jn_rg vm hw.1, by omega⟩
      refine ⟨_, rfl, ⟨by omega, by omega⟩, c6, fun q => ⟨⟨by omega, by omega⟩, fun z0 => q (c5.mpr z0), ⟨by omega, by omega⟩, ⟨by omega, by omega⟩, ?_⟩, fun q => ⟨by decide, ?_⟩⟩
      · have e : q_jn 13 (v lt) (w lt) = max (-1000000) (min 1000000 (Int.tdiv (v lt) (w lt))) := by
          have : q_jn 13 (v lt) (w lt) = Int.tdiv (v lt) (w lt) := if_neg (fun z0 => q (c5.mpr z0))
          rw [this]; omega
        rw [← e]; exact hs'
      · have e : q_jn 13 (v lt) (w lt) = max (-1000000) (min 1000000 0) := if_pos (c5.mp q)
        rw [← e]; exact hs'
theorem m_sum {g : x_G} {b : Nat → Int} {n : Nat} {lt : Nat → Int} {f : Nat} (hlt : ∀ j, j < 6 → q_m6 (lt j)) (hA : q_MX g b n lt f 1 201 [x_r 179] 12) (hL : q_MS g b n lt f 4 202 3 q_m1 14) : q_MX g b n lt (f + 1) 3 202 [x_r 179] 14 := by
  intro dp i a cs v r k I L lp tp Q h hB hM hd hk hQ
  obtain ⟨k, rfl⟩ : ∃ k', k = k' + 2 := ⟨k - 2, by omega⟩
  obtain ⟨l0, lA, lV, li, r1, r2, -⟩ := q_ML hB hM
  have hn := hB.2.2.2.1
  rw [q_p3] at h
  refine v_sum ?_
  rcases q_bd_some h with ⟨e, e1, e2⟩ | ⟨j, c, w, e1, e2⟩
  · have he := q_p_er _ _ _ _ _ _ _ _ _ e1 li
    refine hA dp i a cs q_z _ k _ L lp tp _ e1 hB hM hd (by omega) ⟨fun e' he' z I' hz f' h11 => ?_, fun j c w hj => (by cases hj)⟩
    cases he'
    refine ⟨z, rfl, v_sum_L3 ?_⟩
    rw [h11]
    exact ⟨⟨by omega, by omega⟩, fun _ => (hQ.1 _ e2 z _ ⟨hz.1, fun q => hz.2 (by omega)⟩ f' h11), fun q => by omega⟩
  · have hx := (q_p_ex b n lt hlt f 1 dp i cs q_z j c w e1 hd ⟨by omega, by omega⟩).1
    refine hA dp i a cs q_z _ k _ L lp tp _ e1 hB hM hd (by omega) ⟨fun e' he' => (by cases he'), fun j' c' w' hj I' a' f' A' => ?_⟩
    cases hj
    exact ⟨_, rfl, hL dp j a' c w r (k + 2) I' L lp tp Q e2 (q_MB_fr hB f') A' hd ⟨fun _ => hx.1, fun q => hx.2 (by omega)⟩ (by omega) (q_PM_tag (q_PM_tr hQ f') (by omega))⟩
theorem m_sumLoop {g : x_G} {b : Nat → Int} {n : Nat} {lt : Nat → Int} {f : Nat} (hlt : ∀ j, j < 6 → q_m6 (lt j)) (hA : q_MX g b n lt f 1 201 [x_r 179] 12) (hL : q_MS g b n lt f 4 202 3 q_m1 14) : q_MS g b n lt (f + 1) 4 202 3 q_m1 14 := by
  intro dp i a cs v r k I L lp tp Q h hB hM hd hv hk hQ
  obtain ⟨k, rfl⟩ : ∃ k', k = k' + 2 := ⟨k - 2, by omega⟩
  obtain ⟨l0, lA, lV, li, r1, r2, -⟩ := q_ML hB hM
  have hn := hB.2.2.2.1
  have vm : q_m6 (v lt) := hv.1 (by omega)
  rw [q_p4] at h
  have ex : ∀ (e : Nat) (y : Int) (I' : Nat → Nat → Int), r = .inl e → q_ou 4 y → e ≤ 240 → x_fr q_fM I I' → I' 179 11 = (e : Int) → x_S g (k + 2) 202 Q 3 (q_m1 y) [] (I', L, lp, tp) := by
    intro e y I' he hy he2 f' h11
    refine v_sum_L3 ?_
    rw [h11]
    exact ⟨⟨by omega, by omega⟩, fun _ => (hQ.1 _ he y _ hy f' h11), fun q => by omega⟩
  have stp : ∀ (o : Int) (K : x_Q), 0 ≤ q_tk b n i → q_bd (q_p b n f 1 dp (q_s b n (i + 1)) cs q_z) (fun j c w => q_p b n f 4 dp j (c ++ [o]) (q_j o v w)) = some r → (∀ (e : Nat) (z : Int) (I' : Nat → Nat → Int), r = .inl e → q_ou 1 z → e ≤ 240 → x_fr q_fM I I' → I' 179 11 = (e : Int) → K [x_i z] (I', L, lp, tp)) → (∀ (w : q_LV), q_ou 1 (w lt) → ∀ I', x_fr q_fM I I' → (q_in 4 (q_jn o (v lt) (w lt)) → x_S g (k + 2) 202 Q 3 (q_m1 (q_jn o (v lt) (w lt))) [] (I', L, lp, tp)) → K [x_i (w lt)] (I', L, lp, tp)) → x_X g k 201 [x_r 179] (x_u I 179 10 ((i : Int) + 1), L, lp, tp) K := by
    intro o K hz hh k1 k2
    obtain ⟨a1, a2, a3⟩ := q_s1 (b := b) (n := n) (i := i) hz
    have M1 := q_MA_at (c := i + 1) hM (by omega)
    have B1 := q_MB_fr hB (q_fM10 I ((i + 1 : Nat) : Int))
    rcases q_bd_some hh with ⟨e, e1, e2⟩ | ⟨j, c, w, e1, e2⟩
    · have he := q_p_er _ _ _ _ _ _ _ _ _ e1 a3
      refine hA dp _ (i + 1) cs q_z _ k _ L lp tp _ e1 B1 M1 hd (by omega) ⟨fun e' he' z I' hz f' h11 => ?_, fun j c w hj => (by cases hj)⟩
      cases he'
      exact k1 _ z I' e2 hz (by omega) (x_fr_trans (q_fM10 _ _) f') h11
    · have hx := (q_p_ex b n lt hlt f 1 dp _ cs q_z j c w e1 hd ⟨by omega, by omega⟩).1
      refine hA dp _ (i + 1) cs q_z _ k _ L lp tp _ e1 B1 M1 hd (by omega) ⟨fun e' he' => (by cases he'), fun j' c' w' hj I' a' f' A' => ?_⟩
      cases hj
      have fr := x_fr_trans (q_fM10 I ((i + 1 : Nat) : Int)) f'
      exact k2 w hx I' fr (fun hin => hL dp j a' _ _ r (k + 2) I' L lp tp Q e2 (q_MB_fr hB fr) A' hd hin (by omega) (q_PM_tr hQ fr))
  refine v_sum_L3 ?_
  rw [hM.2.2.2.1, lA, lV, x_u_u]
  refine ⟨by decide, fun q => absurd rfl q, fun _ => ⟨l0, ⟨by omega, by omega⟩, fun q2 => ?_, fun q2 => ⟨fun q3 => ?_, fun q3 => ?_⟩⟩⟩
  · rw [if_pos q2] at h
    refine stp 10 _ (by omega) h (fun e z I' he hz he2 f' h11 => ?_) (fun w hw I' f' hs => ?_)
    · have hz1 := hz.1
      exact ⟨z, rfl, ⟨by omega, by omega⟩, ⟨by omega, by omega⟩, ⟨by omega, by omega⟩, ⟨by omega, by omega⟩, ex e _ I' he ⟨⟨by omega, by omega⟩, by omega⟩ he2 f' h11⟩
    · have hw1 := hw.1
      have ev : max (-1000000) (min 1000000 (v lt + w lt)) = q_jn 10 (v lt) (w lt) := by show _ = q_cl6 _; unfold q_cl6; rw [Int.min_comm]
      refine ⟨_, rfl, ⟨by omega, by omega⟩, ⟨by omega, by omega⟩, ⟨by omega, by omega⟩, ⟨by omega, by omega⟩, ?_⟩
      rw [ev]
      exact hs ⟨fun _ => q_jn_rg vm hw.1, by omega⟩
  · rw [if_neg q2, if_neg q3] at h
    cases h
    exact (hQ.2 _ _ _ rfl _ i (q_fM10 _ _) (q_MA_st hM))
  · rw [if_neg q2, if_pos q3] at h
    refine stp 11 _ (by omega) h (fun e z I' he hz he2 f' h11 => ?_) (fun w hw I' f' hs => ?_)
    · have hz1 := hz.1
      exact ⟨z, rfl, ⟨by omega, by omega⟩, ⟨by omega, by omega⟩, ⟨by omega, by omega⟩, ⟨by omega, by omega⟩, ex e _ I' he ⟨⟨by omega, by omega⟩, by omega⟩ he2 f' h11⟩
    · have hw1 := hw.1
      have ev : max (-1000000) (min 1000000 (v lt - w lt)) = q_jn 11 (v lt) (w lt) := by show _ = q_cl6 _; unfold q_cl6; rw [Int.min_comm]
      refine ⟨_, rfl, ⟨by omega, by omega⟩, ⟨by omega, by omega⟩, ⟨by omega, by omega⟩, ⟨by omega, by omega⟩, ?_⟩
      rw [ev]
      exact hs ⟨fun _ => q_jn_rg vm hw.1, by omega⟩
theorem m_part {g : x_G} {b : Nat → Int} {n : Nat} {lt : Nat → Int} {f : Nat} (hlt : ∀ j, j < 6 → q_m6 (lt j)) (hA : q_MX g b n lt f 5 205 [x_r 179] 18) (hL : q_MS g b n lt f 8 206 10 q_m2 20) : q_MX g b n lt (f + 1) 7 206 [x_r 179, x_i 0, x_i 0] 20 := by
  intro dp i a cs v r k I L lp tp Q h hB hM hd hk hQ
  obtain ⟨k, rfl⟩ : ∃ k', k = k' + 2 := ⟨k - 2, by omega⟩
  obtain ⟨l0, lA, lV, li, r1, r2, -⟩ := q_ML hB hM
  have hn := hB.2.2.2.1
  rw [q_p7] at h
  refine v_part ⟨by decide, fun _ => ?_, fun q => absurd rfl q⟩
  rcases q_bd_some h with ⟨e, e1, e2⟩ | ⟨j, c, w, e1, e2⟩
  · have he := q_p_er _ _ _ _ _ _ _ _ _ e1 li
    refine hA dp i a cs q_z _ k _ L lp tp _ e1 hB hM hd (by omega) ⟨fun e' he' z I' hz f' h11 => ?_, fun j c w hj => (by cases hj)⟩
    cases he'
    refine ⟨z, rfl, v_part_L10 ?_⟩
    rw [h11]
    exact ⟨⟨by omega, by omega⟩, fun _ => ⟨hz.2 (by decide), hQ.1 _ e2 z _ ⟨hz.1, fun q => hz.2 (by omega)⟩ f' h11⟩, fun q => by omega⟩
  · have hx := (q_p_ex b n lt hlt f 5 dp i cs q_z j c w e1 hd ⟨by omega, by omega⟩).1
    refine hA dp i a cs q_z _ k _ L lp tp _ e1 hB hM hd (by omega) ⟨fun e' he' => (by cases he'), fun j' c' w' hj I' a' f' A' => ?_⟩
    cases hj
    exact ⟨_, rfl, hL dp j a' c w r (k + 2) I' L lp tp Q e2 (q_MB_fr hB f') A' hd ⟨fun _ => hx.1, fun q => hx.2 (by omega)⟩ (by omega) (q_PM_tag (q_PM_tr hQ f') (by omega))⟩
theorem m_partLoop {g : x_G} {b : Nat → Int} {n : Nat} {lt : Nat → Int} {f : Nat} (hlt : ∀ j, j < 6 → q_m6 (lt j)) (hA : q_MX g b n lt f 5 205 [x_r 179] 18) (hL : q_MS g b n lt f 8 206 10 q_m2 20) : q_MS g b n lt (f + 1) 8 206 10 q_m2 20 := by
  intro dp i a cs v r k I L lp tp Q h hB hM hd hv hk hQ
  obtain ⟨k, rfl⟩ : ∃ k', k = k' + 2 := ⟨k - 2, by omega⟩
  obtain ⟨l0, lA, lV, li, r1, r2, -⟩ := q_ML hB hM
  have hn := hB.2.2.2.1
  have vm : q_m6 (v lt) := q_bo_m6 (hv.2 (by omega))
  rw [q_p8] at h
  have ex : ∀ (e : Nat) (y : Int) (I' : Nat → Nat → Int), r = .inl e → q_ou 8 y → e ≤ 240 → x_fr q_fM I I' → I' 179 11 = (e : Int) → x_S g (k + 2) 206 Q 10 (q_m2 y) [] (I', L, lp, tp) := by
    intro e y I' he hy he2 f' h11
    refine v_part_L10 ?_
    rw [h11]
    exact ⟨⟨by omega, by omega⟩, fun _ => ⟨hy.2 (by decide), hQ.1 _ he y _ hy f' h11⟩, fun q => by omega⟩
  have stp : ∀ (o : Int) (K : x_Q), 0 ≤ q_tk b n i → q_bd (q_p b n f 5 dp (q_s b n (i + 1)) cs q_z) (fun j c w => q_p b n f 8 dp j (c ++ [o]) (q_j o v w)) = some r → (∀ (e : Nat) (z : Int) (I' : Nat → Nat → Int), r = .inl e → q_ou 5 z → e ≤ 240 → x_fr q_fM I I' → I' 179 11 = (e : Int) → K [x_i z] (I', L, lp, tp)) → (∀ (w : q_LV), q_ou 5 (w lt) → ∀ I', x_fr q_fM I I' → (q_in 8 (q_jn o (v lt) (w lt)) → x_S g (k + 2) 206 Q 10 (q_m2 (q_jn o (v lt) (w lt))) [] (I', L, lp, tp)) → K [x_i (w lt)] (I', L, lp, tp)) → x_X g k 205 [x_r 179] (x_u I 179 10 ((i : Int) + 1), L, lp, tp) K := by
    intro o K hz hh k1 k2
    obtain ⟨a1, a2, a3⟩ := q_s1 (b := b) (n := n) (i := i) hz
    have M1 := q_MA_at (c := i + 1) hM (by omega)
    have B1 := q_MB_fr hB (q_fM10 I ((i + 1 : Nat) : Int))
    rcases q_bd_some hh with ⟨e, e1, e2⟩ | ⟨j, c, w, e1, e2⟩
    · have he := q_p_er _ _ _ _ _ _ _ _ _ e1 a3
      refine hA dp _ (i + 1) cs q_z _ k _ L lp tp _ e1 B1 M1 hd (by omega) ⟨fun e' he' z I' hz f' h11 => ?_, fun j c w hj => (by cases hj)⟩
      cases he'
      exact k1 _ z I' e2 hz (by omega) (x_fr_trans (q_fM10 _ _) f') h11
    · have hx := (q_p_ex b n lt hlt f 5 dp _ cs q_z j c w e1 hd ⟨by omega, by omega⟩).1
      refine hA dp _ (i + 1) cs q_z _ k _ L lp tp _ e1 B1 M1 hd (by omega) ⟨fun e' he' => (by cases he'), fun j' c' w' hj I' a' f' A' => ?_⟩
      cases hj
      have fr := x_fr_trans (q_fM10 I ((i + 1 : Nat) : Int)) f'
      exact k2 w hx I' fr (fun hin => hL dp j a' _ _ r (k + 2) I' L lp tp Q e2 (q_MB_fr hB fr) A' hd hin (by omega) (q_PM_tr hQ fr))
  refine v_part_L10 ?_
  rw [hM.2.2.2.1, lA, lV, x_u_u]
  refine ⟨by decide, fun q => absurd rfl q, fun _ => ⟨l0, ⟨by omega, by omega⟩, fun q2 => ?_, fun q2 => ?_⟩⟩
  · rw [if_neg q2] at h
    cases h
    exact ⟨hv.2 (by omega), hQ.2 _ _ _ rfl _ i (q_fM10 _ _) (q_MA_st hM)⟩
  · rw [if_pos q2] at h
    have hb := hv.2 (by omega)
    refine stp 17 _ (by omega) h (fun e z I' he hz he2 f' h11 => ?_) (fun w hw I' f' hs => ?_)
    · have hz1 := hz.1
      have x0 := ex e 0 I' he ⟨⟨by decide, by decide⟩, fun _ => Or.inl rfl⟩ he2 f' h11
      have x1 := ex e 1 I' he ⟨⟨by decide, by decide⟩, fun _ => Or.inr rfl⟩ he2 f' h11
      exact ⟨z, rfl, ⟨by omega, by omega⟩, fun _ => x0, fun _ => ⟨⟨by omega, by omega⟩, fun _ => x0, fun _ => x1⟩⟩
    · have hw1 := hw.1
      have hwb := hw.2 (by decide)
      have hs' := hs ⟨by omega, fun _ => q_jn_bo (by decide)⟩
      refine ⟨_, rfl, ⟨by omega, by omega⟩, fun q => ?_, fun q => ⟨⟨by omega, by omega⟩, fun q4 => ?_, fun q4 => ?_⟩⟩
      · rw [show q_jn 17 (v lt) (w lt) = 0 by (show (if v lt = 1 ∧ w lt = 1 then (1 : Int) else 0) = 0); rw [if_neg (by omega)]] at hs'; exact hs'
      · rw [show q_jn 17 (v lt) (w lt) = 0 by (show (if v lt = 1 ∧ w lt = 1 then (1 : Int) else 0) = 0); rw [if_neg (by omega)]] at hs'; exact hs'
      · rw [show q_jn 17 (v lt) (w lt) = 1 by (show (if v lt = 1 ∧ w lt = 1 then (1 : Int) else 0) = 1); unfold q_bo at hb hwb; rw [if_pos (by omega)]] at hs'; exact hs'
theorem m_condition {g : x_G} {b : Nat → Int} {n : Nat} {lt : Nat → Int} {f : Nat} (hlt : ∀ j, j < 6 → q_m6 (lt j)) (hA : q_MX g b n lt f 7 206 [x_r 179, x_i 0, x_i 0] 20) (hL : q_MS g b n lt f 10 207 5 q_m2 22) : q_MX g b n lt (f + 1) 9 207 [x_r 179, x_i 0, x_i 0] 22 := by
  intro dp i a cs v r k I L lp tp Q h hB hM hd hk hQ
  obtain ⟨k, rfl⟩ : ∃ k', k = k' + 2 := ⟨k - 2, by omega⟩
  obtain ⟨l0, lA, lV, li, r1, r2, -⟩ := q_ML hB hM
  have hn := hB.2.2.2.1
  rw [q_p9] at h
  refine v_condition ?_
  rcases q_bd_some h with ⟨e, e1, e2⟩ | ⟨j, c, w, e1, e2⟩
  · have he := q_p_er _ _ _ _ _ _ _ _ _ e1 li
    refine hA dp i a cs q_z _ k _ L lp tp _ e1 hB hM hd (by omega) ⟨fun e' he' z I' hz f' h11 => ?_, fun j c w hj => (by cases hj)⟩
    cases he'
    refine ⟨z, rfl, v_condition_L5 ?_⟩
    rw [h11]
    exact ⟨⟨by omega, by omega⟩, fun _ => ⟨hz.2 (by decide), hQ.1 _ e2 z _ ⟨hz.1, fun q => hz.2 (by omega)⟩ f' h11⟩, fun q => by omega⟩
  · have hx := (q_p_ex b n lt hlt f 7 dp i cs q_z j c w e1 hd ⟨by omega, by omega⟩).1
    refine hA dp i a cs q_z _ k _ L lp tp _ e1 hB hM hd (by omega) ⟨fun e' he' => (by cases he'), fun j' c' w' hj I' a' f' A' => ?_⟩
    cases hj
    exact ⟨_, rfl, hL dp j a' c w r (k + 2) I' L lp tp Q e2 (q_MB_fr hB f') A' hd ⟨fun _ => hx.1, fun q => hx.2 (by omega)⟩ (by omega) (q_PM_tag (q_PM_tr hQ f') (by omega))⟩
theorem m_conditionLoop {g : x_G} {b : Nat → Int} {n : Nat} {lt : Nat → Int} {f : Nat} (hlt : ∀ j, j < 6 → q_m6 (lt j)) (hA : q_MX g b n lt f 7 206 [x_r 179, x_i 0, x_i 0] 20) (hL : q_MS g b n lt f 10 207 5 q_m2 22) : q_MS g b n lt (f + 1) 10 207 5 q_m2 22 := by
  intro dp i a cs v r k I L lp tp Q h hB hM hd hv hk hQ
  obtain ⟨k, rfl⟩ : ∃ k', k = k' + 2 := ⟨k - 2, by omega⟩
  obtain ⟨l0, lA, lV, li, r1, r2, -⟩ := q_ML hB hM
  have hn := hB.2.2.2.1
  have vm : q_m6 (v lt) := q_bo_m6 (hv.2 (by omega))
  rw [q_p10] at h
  have ex : ∀ (e : Nat) (y : Int) (I' : Nat → Nat → Int), r = .inl e → q_ou 10 y → e ≤ 240 → x_fr q_fM I I' → I' 179 11 = (e : Int) → x_S g (k + 2) 207 Q 5 (q_m2 y) [] (I', L, lp, tp) := by
    intro e y I' he hy he2 f' h11
    refine v_condition_L5 ?_
    rw [h11]
    exact ⟨⟨by omega, by omega⟩, fun _ => ⟨hy.2 (by decide), hQ.1 _ he y _ hy f' h11⟩, fun q => by omega⟩
  have stp : ∀ (o : Int) (K : x_Q), 0 ≤ q_tk b n i → q_bd (q_p b n f 7 dp (q_s b n (i + 1)) cs q_z) (fun j c w => q_p b n f 10 dp j (c ++ [o]) (q_j o v w)) = some r → (∀ (e : Nat) (z : Int) (I' : Nat → Nat → Int), r = .inl e → q_ou 7 z → e ≤ 240 → x_fr q_fM I I' → I' 179 11 = (e : Int) → K [x_i z] (I', L, lp, tp)) → (∀ (w : q_LV), q_ou 7 (w lt) → ∀ I', x_fr q_fM I I' → (q_in 10 (q_jn o (v lt) (w lt)) → x_S g (k + 2) 207 Q 5 (q_m2 (q_jn o (v lt) (w lt))) [] (I', L, lp, tp)) → K [x_i (w lt)] (I', L, lp, tp)) → x_X g k 206 [x_r 179, x_i 0, x_i 0] (x_u I 179 10 ((i : Int) + 1), L, lp, tp) K := by
    intro o K hz hh k1 k2
    obtain ⟨a1, a2, a3⟩ := q_s1 (b := b) (n := n) (i := i) hz
    have M1 := q_MA_at (c := i + 1) hM (by omega)
    have B1 := q_MB_fr hB (q_fM10 I ((i + 1 : Nat) : Int))
    rcases q_bd_some hh with ⟨e, e1, e2⟩ | ⟨j, c, w, e1, e2⟩
    · have he := q_p_er _ _ _ _ _ _ _ _ _ e1 a3
      refine hA dp _ (i + 1) cs q_z _ k _ L lp tp _ e1 B1 M1 hd (by omega) ⟨fun e' he' z I' hz f' h11 => ?_, fun j c w hj => (by cases hj)⟩
      cases he'
      exact k1 _ z I' e2 hz (by omega) (x_fr_trans (q_fM10 _ _) f') h11
    · have hx := (q_p_ex b n lt hlt f 7 dp _ cs q_z j c w e1 hd ⟨by omega, by omega⟩).1
      refine hA dp _ (i + 1) cs q_z _ k _ L lp tp _ e1 B1 M1 hd (by omega) ⟨fun e' he' => (by cases he'), fun j' c' w' hj I' a' f' A' => ?_⟩
      cases hj
      have fr := x_fr_trans (q_fM10 I ((i + 1 : Nat) : Int)) f'
      exact k2 w hx I' fr (fun hin => hL dp j a' _ _ r (k + 2) I' L lp tp Q e2 (q_MB_fr hB fr) A' hd hin (by omega) (q_PM_tr hQ fr))
  refine v_condition_L5 ?_
  rw [hM.2.2.2.1, lA, lV, x_u_u]
  refine ⟨by decide, fun q => absurd rfl q, fun _ => ⟨l0, ⟨by omega, by omega⟩, fun q2 => ?_, fun q2 => ?_⟩⟩
  · rw [if_neg q2] at h
    cases h
    exact ⟨hv.2 (by omega), hQ.2 _ _ _ rfl _ i (q_fM10 _ _) (q_MA_st hM)⟩
  · rw [if_pos q2] at h
    have hb := hv.2 (by omega)
    refine stp 18 _ (by omega) h (fun e z I' he hz he2 f' h11 => ?_) (fun w hw I' f' hs => ?_)
    · have hz1 := hz.1
      have x0 := ex e 0 I' he ⟨⟨by decide, by decide⟩, fun _ => Or.inl rfl⟩ he2 f' h11
      have x1 := ex e 1 I' he ⟨⟨by decide, by decide⟩, fun _ => Or.inr rfl⟩ he2 f' h11
      exact ⟨z, rfl, ⟨by omega, by omega⟩, fun _ => x1, fun _ => ⟨⟨by omega, by omega⟩, fun _ => x0, fun _ => x1⟩⟩
    · have hw1 := hw.1
      have hwb := hw.2 (by decide)
      have hs' := hs ⟨by omega, fun _ => q_jn_bo (by decide)⟩
      unfold q_bo at hb hwb
      refine ⟨_, rfl, ⟨by omega, by omega⟩, fun q => ?_, fun q => ⟨⟨by omega, by omega⟩, fun q4 => ?_, fun q4 => ?_⟩⟩
      · rw [show q_jn 18 (v lt) (w lt) = 1 by (show (if v lt = 1 ∨ w lt = 1 then (1 : Int) else 0) = 1); rw [if_pos (by omega)]] at hs'; exact hs'
      · rw [show q_jn 18 (v lt) (w lt) = 0 by (show (if v lt = 1 ∨ w lt = 1 then (1 : Int) else 0) = 0); rw [if_neg (by omega)]] at hs'; exact hs'
      · rw [show q_jn 18 (v lt) (w lt) = 1 by (show (if v lt = 1 ∨ w lt = 1 then (1 : Int) else 0) = 1); rw [if_pos (by omega)]] at hs'; exact hs'
theorem m_cmp {g : x_G} {b : Nat → Int} {n : Nat} {lt : Nat → Int} {f : Nat} (hlt : ∀ j, j < 6 → q_m6 (lt j)) (hS : q_MX g b n lt f 3 202 [x_r 179] 14) : q_MC g b n lt (f + 1) := by
  intro dp i a cs v r k I L lp tp Q h hB hM hd vm hk hQ
  obtain ⟨l0, lA, lV, li, r1, r2, -⟩ := q_ML hB hM
  have hn := hB.2.2.2.1
  rw [q_p6] at h
  have stp : ∀ (o : Int) (K : x_Q), q_cs (q_tk b n i) = o → ¬ o = -1 → (∀ (e : Nat) (z : Int) (I' : Nat → Nat → Int), r = .inl e → q_m6 z → x_fr q_fM I I' → I' 179 11 = (e : Int) → K [x_i z] (I', L, lp, tp)) → (∀ (w : q_LV), q_m6 (w lt) → ∀ I', x_fr q_fM I I' → Q [x_i (q_jn o (v lt) (w lt))] (I', L, lp, tp) → K [x_i (w lt)] (I', L, lp, tp)) → x_X g k 202 [x_r 179] (x_u I 179 10 ((i : Int) + 1), L, lp, tp) K := by
    intro o K ho ho1 k1 k2
    rw [ho, if_neg ho1] at h
    obtain ⟨a1, a2, a3⟩ := q_s1 (b := b) (n := n) (i := i) (q_cs_nn (by rw [ho]; exact ho1))
    have M1 := q_MA_at (c := i + 1) hM (by omega)
    have B1 := q_MB_fr hB (q_fM10 I ((i + 1 : Nat) : Int))
    rcases q_bd_some h with ⟨e, e1, e2⟩ | ⟨j, c, w, e1, e2⟩
    · refine hS dp _ (i + 1) cs q_z _ k _ L lp tp _ e1 B1 M1 hd (by omega) ⟨fun e' he' z I' hz f' h11 => ?_, fun j c w hj => (by cases hj)⟩
      cases he'
      exact k1 _ z I' e2 hz.1 (x_fr_trans (q_fM10 _ _) f') h11
    · have hx := (q_p_ex b n lt hlt f 3 dp _ cs q_z j c w e1 hd ⟨by omega, by omega⟩).1
      refine hS dp _ (i + 1) cs q_z _ k _ L lp tp _ e1 B1 M1 hd (by omega) ⟨fun e' he' => (by cases he'), fun j' c' w' hj I' a' f' A' => ?_⟩
      cases hj
      cases e2
      have fr := x_fr_trans (q_fM10 I ((i + 1 : Nat) : Int)) f'
      exact k2 w hx.1 I' fr (hQ.2 _ _ _ rfl _ a' fr A')
  have b01 : ∀ {e : Nat} {I' : Nat → Nat → Int}, r = .inl e → x_fr q_fM I I' → I' 179 11 = (e : Int) → Q [x_i 0] (I', L, lp, tp) ∧ Q [x_i 1] (I', L, lp, tp) := fun he f' h11 => ⟨hQ.1 _ he 0 _ ⟨⟨by decide, by decide⟩, fun _ => Or.inl rfl⟩ f' h11, hQ.1 _ he 1 _ ⟨⟨by decide, by decide⟩, fun _ => Or.inr rfl⟩ f' h11⟩
  unfold q_cmpM
  rw [hM.2.2.2.1, lA, lV, x_u_u]
  refine ⟨by decide, fun _ => ⟨l0, ⟨by omega, by omega⟩, fun q => ?_, fun q => ⟨fun q2 => ?_, fun q2 => ⟨fun q3 => ?_, fun q3 => ?_⟩⟩⟩, fun q => absurd rfl q⟩
  · refine stp 14 _ (by rw [q]; rfl) (by decide) (fun e z I' he hz f' h11 => ?_) (fun w hw I' f' hs => ?_)
    · obtain ⟨c0, c1⟩ := b01 he f' h11
      exact ⟨z, rfl, ⟨by omega, by omega⟩, ⟨by omega, by omega⟩, fun _ => c0, fun _ => c1⟩
    · refine ⟨_, rfl, ⟨by omega, by omega⟩, ⟨by omega, by omega⟩, fun q4 => ?_, fun q4 => ?_⟩
      · have e : q_jn 14 (v lt) (w lt) = 0 := if_neg q4
        rw [e] at hs; exact hs
      · have e : q_jn 14 (v lt) (w lt) = 1 := if_pos q4
        rw [e] at hs; exact hs
  · refine stp 15 _ (by rw [q2]; rfl) (by decide) (fun e z I' he hz f' h11 => ?_) (fun w hw I' f' hs => ?_)
    · obtain ⟨c0, c1⟩ := b01 he f' h11
      exact ⟨z, rfl, ⟨by omega, by omega⟩, ⟨by omega, by omega⟩, fun _ => c0, fun _ => c1⟩
    · refine ⟨_, rfl, ⟨by omega, by omega⟩, ⟨by omega, by omega⟩, fun q4 => ?_, fun q4 => ?_⟩
      · have e : q_jn 15 (v lt) (w lt) = 0 := if_neg (show ¬ v lt < w lt by omega)
        rw [e] at hs; exact hs
      · have e : q_jn 15 (v lt) (w lt) = 1 := if_pos q4
        rw [e] at hs; exact hs
  · have hc : q_cs (q_tk b n i) = -1 := by unfold q_cs; rw [if_neg q, if_neg q2, if_neg q3]
    rw [if_pos hc] at h
    cases h
    refine x_le (show 1 ≤ k by omega) (s_failsE (k := 0) hM.2.2.2.1 ⟨0, rfl, Or.inl rfl, ?_⟩)
    exact (b01 rfl (x_fr_trans (q_fM10 _ _) (q_fM11 _ _)) (x_u_same _ _ _ _)).1
  · refine stp 16 _ (by rw [q3]; rfl) (by decide) (fun e z I' he hz f' h11 => ?_) (fun w hw I' f' hs => ?_)
    · obtain ⟨c0, c1⟩ := b01 he f' h11
      exact ⟨z, rfl, ⟨by omega, by omega⟩, ⟨by omega, by omega⟩, fun _ => c0, fun _ => c1⟩
    · refine ⟨_, rfl, ⟨by omega, by omega⟩, ⟨by omega, by omega⟩, fun q4 => ?_, fun q4 => ?_⟩
      · have e : q_jn 16 (v lt) (w lt) = 0 := if_neg (show ¬ w lt < v lt by omega)
        rw [e] at hs; exact hs
      · have e : q_jn 16 (v lt) (w lt) = 1 := if_pos q4
        rw [e] at hs; exact hs
theorem m_compB {g : x_G} {b : Nat → Int} {n : Nat} {lt : Nat → Int} {f : Nat} (hC : q_MC g b n lt f) {dp i a : Nat} {cs : List Int} {v : q_LV} {r : Nat ⊕ (Nat × List Int × q_LV)} {k : Nat} {I L : Nat → Nat → Int} {lp tp : Nat} {Q : x_Q} (h : q_p b n f 6 dp i cs v = some r) (hB : q_MB I tp b n lt) (hM : q_MA I b n a i dp) (hd : dp ≤ 6) (vm : q_m6 (v lt)) (hk : 16 + 10 * (6 - dp) ≤ k) (hQ : q_PM b n lt dp Q I L lp tp 6 r) : x_X g k 204 [x_r 179, x_i 1, x_i (v lt)] (I, L, lp, tp) Q := by
  obtain ⟨k, rfl⟩ : ∃ k', k = k' + 2 := ⟨k - 2, by omega⟩
  exact v_compares ⟨by decide, fun q => absurd q (by decide), fun _ => hC dp i a cs v r k I L lp tp Q h hB hM hd vm (by omega) hQ⟩
theorem m_unit {g : x_G} {b : Nat → Int} {n : Nat} {lt : Nat → Int} {f : Nat} (hlt : ∀ j, j < 6 → q_m6 (lt j)) (hU : q_MX g b n lt f 5 205 [x_r 179] 18) (hD : q_MX g b n lt f 9 207 [x_r 179, x_i 0, x_i 0] 22) (hS : q_MX g b n lt f 3 202 [x_r 179] 14) (hC : q_MC g b n lt f) : q_MX g b n lt (f + 1) 5 205 [x_r 179] 18 := by
  intro dp i a cs v r k I L lp tp Q h hB hM hd hk hQ
  obtain ⟨k, rfl⟩ : ∃ k', k = k' + 2 := ⟨k - 2, by omega⟩
  obtain ⟨l0, lA, lV, li, r1, r2, -⟩ := q_ML hB hM
  have hn := hB.2.2.2.1
  rw [q_p5] at h
  have hS1 := q_MA_st hM
  have hB1 := q_MB_fr hB (q_fM10 I (i : Int))
  have b01 : ∀ {e : Nat} {I' : Nat → Nat → Int}, r = .inl e → x_fr q_fM I I' → I' 179 11 = (e : Int) → Q [x_i 0] (I', L, lp, tp) ∧ Q [x_i 1] (I', L, lp, tp) := fun he f' h11 => ⟨hQ.1 _ he 0 _ ⟨⟨by decide, by decide⟩, fun _ => Or.inl rfl⟩ f' h11, hQ.1 _ he 1 _ ⟨⟨by decide, by decide⟩, fun _ => Or.inr rfl⟩ f' h11⟩
  refine v_unit ?_
  rw [lA, lV]
  refine ⟨l0, ⟨by omega, by omega⟩, fun q => ⟨fun q2 => ?_, fun q2 => ?_⟩, fun q => ?_⟩
  · rw [if_neg q, if_neg q2] at h
    obtain ⟨k, rfl⟩ : ∃ k', k = k' + 2 := ⟨k - 2, by omega⟩
    refine v_compares ⟨by decide, fun _ => ?_, fun q => absurd rfl q⟩
    rcases q_bd_some h with ⟨e, e1, e2⟩ | ⟨j, c, w, e1, e2⟩
    · have he := q_p_er _ _ _ _ _ _ _ _ _ e1 li
      refine hS dp i i cs q_z _ k _ L lp tp _ e1 hB1 hS1 hd (by omega) ⟨fun e' he' z I' hz f' h11 => ?_, fun j c w hj => (by cases hj)⟩
      cases he'
      refine ⟨z, rfl, ?_⟩
      dsimp only
      rw [h11]
      exact ⟨⟨by omega, by omega⟩, fun q => by omega, fun _ => ⟨0, rfl, Or.inl rfl, (b01 e2 (x_fr_trans (q_fM10 _ _) f') h11).1⟩⟩
    · have hx := (q_p_ex b n lt hlt f 3 dp _ cs q_z j c w e1 hd ⟨by omega, by omega⟩).1
      refine hS dp i i cs q_z _ k _ L lp tp _ e1 hB1 hS1 hd (by omega) ⟨fun e' he' => (by cases he'), fun j' c' w' hj I' a' f' A' => ?_⟩
      cases hj
      have fr := x_fr_trans (q_fM10 I (i : Int)) f'
      refine ⟨_, rfl, hC dp j a' c w r k I' L lp tp (fun rv w => ∃ z, rv = [x_i z] ∧ (z = 0 ∨ z = 1) ∧ Q [x_i z] w) e2 (q_MB_fr hB fr) A' hd hx.1 (by omega) ⟨fun e he z I2 hz f2 h11 => ?_, fun j c w2 hr I2 a2 f2 A2 => ?_⟩⟩
      · exact ⟨z, rfl, hz.2 (by decide), hQ.1 e he z I2 ⟨hz.1, fun _ => hz.2 (by decide)⟩ (x_fr_trans fr f2) h11⟩
      · subst hr
        have hx2 := (q_p_ex b n lt hlt f 6 dp _ _ _ _ _ _ e2 hd ⟨fun _ => hx.1, by omega⟩).1
        exact ⟨_, rfl, hx2.2 (by decide), hQ.2 _ _ _ rfl I2 a2 (x_fr_trans fr f2) A2⟩
  · rw [if_neg q, if_pos q2] at h
    have hi : i < n := q_tk_lt (b := b) (by omega)
    refine x_le (show 2 ≤ k by omega) (s_goesIn (k := 0) hS1 hi hd (fun hd6 I2 f2 A2 => ?_) (fun hd6 I2 f2 e2 => ?_))
    · have fr2 := x_fr_trans (q_fM10 I (i : Int)) f2
      have hB2 := q_MB_fr hB fr2
      rw [if_neg hd6] at h
      refine ⟨1, rfl, by decide, fun _ => ?_, fun z => absurd z (by decide)⟩
      rcases q_bd_some h with ⟨e, e1, e2⟩ | ⟨j, c, w, e1, e2⟩
      · have he := q_p_er _ _ _ _ _ _ _ _ _ e1 (q_s_le (by omega))
        refine hD (dp + 1) _ (i + 1) cs q_z _ k _ L lp tp _ e1 hB2 A2 (by omega) (by omega) ⟨fun e' he' z I3 hz f3 h11 => ?_, fun j c w hj => (by cases hj)⟩
        cases he'
        exact ⟨z, rfl, x_le (show 3 ≤ k by omega) (s_takesK (k := 0) h11 (by omega) ⟨0, rfl, by decide, fun q => absurd rfl q, fun _ => (b01 e2 (x_fr_trans fr2 f3) h11).1⟩)⟩
      · have hx := (q_p_ex b n lt hlt f 9 (dp + 1) _ cs q_z j c w e1 (by omega) ⟨by omega, by omega⟩).1
        refine hD (dp + 1) _ (i + 1) cs q_z _ k _ L lp tp _ e1 hB2 A2 (by omega) (by omega) ⟨fun e' he' => (by cases he'), fun j' c' w' hj I3 a3 f3 A3 => ?_⟩
        cases hj
        have fr3 := x_fr_trans fr2 f3
        refine ⟨_, rfl, x_le (show 3 ≤ k by omega) (s_takes (k := 0) (by decide) (q_MB_fr hB fr3) A3 (fun q3 I4 f4 A4 => ?_) (fun q3 I4 f4 h11 => ?_))⟩
        · rw [if_pos q3] at e2
          cases e2
          refine ⟨1, rfl, by decide, fun _ => ⟨hx.2 (by decide), ?_⟩, fun z => absurd z (by decide)⟩
          obtain ⟨b1, b2, b3, b4, b5⟩ := A4
          refine hQ.2 _ _ _ rfl _ (j + 1) (x_fr_trans (x_fr_trans fr3 f4) (q_fM12 _ _)) ⟨b1, b2, b3, b4, ?_⟩
          rw [x_u_same]; dsimp only; rw [b5]; omega
        · rw [if_neg q3] at e2
          cases e2
          exact ⟨0, rfl, by decide, fun z => absurd rfl z, fun _ => (b01 rfl (x_fr_trans fr3 f4) h11).1⟩
    · rw [if_pos hd6] at h
      cases h
      exact ⟨0, rfl, by decide, fun z => absurd rfl z, fun _ => (b01 rfl (x_fr_trans (q_fM10 _ _) f2) e2).1⟩
  · rw [if_pos q] at h
    have hi : i < n := q_tk_lt (b := b) (by omega)
    refine x_le (show 2 ≤ k by omega) (s_goesIn (k := 0) hS1 hi hd (fun hd6 I2 f2 A2 => ?_) (fun hd6 I2 f2 e2 => ?_))
    · have fr2 := x_fr_trans (q_fM10 I (i : Int)) f2
      have hB2 := q_MB_fr hB fr2
      rw [if_neg hd6] at h
      refine ⟨1, rfl, by decide, fun _ => ?_, fun z => absurd z (by decide)⟩
      rcases q_bd_some h with ⟨e, e1, e2⟩ | ⟨j, c, w, e1, e2⟩
      · refine hU (dp + 1) _ (i + 1) cs q_z _ k _ L lp tp _ e1 hB2 A2 (by omega) (by omega) ⟨fun e' he' z I3 hz f3 h11 => ?_, fun j c w hj => (by cases hj)⟩
        cases he'
        have hz1 := hz.1
        obtain ⟨c0, c1⟩ := b01 (I' := x_u I3 179 12 (I3 179 12 - 1)) e2 (x_fr_trans (x_fr_trans fr2 f3) (q_fM12 _ _)) h11
        exact ⟨z, rfl, ⟨by omega, by omega⟩, fun _ => c0, fun _ => c1⟩
      · have hx := (q_p_ex b n lt hlt f 5 (dp + 1) _ cs q_z j c w e1 (by omega) ⟨by omega, by omega⟩).1
        refine hU (dp + 1) _ (i + 1) cs q_z _ k _ L lp tp _ e1 hB2 A2 (by omega) (by omega) ⟨fun e' he' => (by cases he'), fun j' c' w' hj I3 a3 f3 A3 => ?_⟩
        cases hj
        cases e2
        have hx1 := hx.1
        have fr3 := x_fr_trans fr2 f3
        obtain ⟨b1, b2, b3, b4, b5⟩ := A3
        have fin := hQ.2 _ _ _ rfl (x_u I3 179 12 (I3 179 12 - 1)) a3 (x_fr_trans fr3 (q_fM12 _ _)) ⟨b1, b2, b3, b4, by rw [x_u_same, b5]; omega⟩
        refine ⟨_, rfl, ⟨by omega, by omega⟩, fun q3 => ?_, fun q3 => ?_⟩
        · rw [show q_nt w lt = 0 from if_neg q3] at fin; exact fin
        · rw [show q_nt w lt = 1 from if_pos q3] at fin; exact fin
    · rw [if_pos hd6] at h
      cases h
      exact ⟨0, rfl, by decide, fun z => absurd rfl z, fun _ => (b01 rfl (x_fr_trans (q_fM10 _ _) f2) e2).1⟩
def q_MP (g : x_G) (b : Nat → Int) (n : Nat) (lt : Nat → Int) (f : Nat) : Prop := q_MX g b n lt f 0 200 [x_r 179] 10 ∧ q_MX g b n lt f 1 201 [x_r 179] 12 ∧ q_MS g b n lt f 2 201 3 q_m1 12 ∧ q_MX g b n lt f 3 202 [x_r 179] 14 ∧ q_MS g b n lt f 4 202 3 q_m1 14 ∧ q_MX g b n lt f 5 205 [x_r 179] 18 ∧ q_MC g b n lt f ∧ q_MX g b n lt f 7 206 [x_r 179, x_i 0, x_i 0] 20 ∧ q_MS g b n lt f 8 206 10 q_m2 20 ∧ q_MX g b n lt f 9 207 [x_r 179, x_i 0, x_i 0] 22 ∧ q_MS g b n lt f 10 207 5 q_m2 22
theorem m_pieces (g : x_G) (b : Nat → Int) (n : Nat) (lt : Nat → Int) (hlt : ∀ j, j < 6 → q_m6 (lt j)) : ∀ f, q_MP g b n lt f
  | 0 => by
    refine ⟨?_, ?_, ?_, ?_, ?_, ?_, ?_, ?_, ?_, ?_, ?_⟩
    all_goals (intro dp i a cs v r k I L lp tp Q h; cases h)
  | f + 1 => by
    obtain ⟨h0, h1, h2, h3, h4, h5, h6, h7, h8, h9, h10⟩ := m_pieces g b n lt hlt f
    exact ⟨m_atom hlt h3, m_term hlt h0 h2, m_termLoop hlt h0 h2, m_sum hlt h1 h4, m_sumLoop hlt h1 h4, m_unit hlt h5 h9 h3 h6, m_cmp hlt h3, m_part hlt h5 h8, m_partLoop hlt h5 h8, m_condition hlt h7 h10, m_conditionLoop hlt h7 h10⟩
