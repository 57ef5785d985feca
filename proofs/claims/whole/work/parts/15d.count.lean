/-! sightings, by the class: counting -/
abbrev q_fB3 : List (Nat × Nat × Nat) := [(162, 5, 6), (165, 0, 8), (166, 0, 8)]
theorem q_Yc_B3 {I I' : Nat → Nat → Int} {lp : Nat} {y : q_Y} (hY : q_Yk y) (h : q_Yc I lp y) (hf : x_fr q_fB3 I I') : q_Yc I' lp y := q_Yc_ag hY h (x_fr_ag hf rfl)
theorem s_begin {g : x_G} {k : Nat} {Q : x_Q} {I L : Nat → Nat → Int} {lp tp : Nat} {y : q_Y} (hY : q_Yk y) (hc : q_Yc I lp y) {t : Int} (hq : ∀ I', x_fr q_fB3 I I' → I' 162 5 = t → (∀ r, r < q_yR y → I' 165 r = 0) → q_lgok y (I' 166) → Q [] (I', L, lp, tp)) : x_X g (k + 3) 84 [x_r 162, x_i t] (I, L, lp, tp) Q := by
  have hR : q_yR y ≤ 8 := by rcases hY.1.1 with q | q <;> omega
  have inner : ∀ (j i r : Nat) (J : Nat → Nat → Int), i + j = q_yR y → r < q_yR y → x_fr q_fB3 I J → (0 ≤ J 166 r ∧ J 166 r ≤ 135) → (q_ymi y (-1) r ≤ J 166 r ∧ ∀ f : Nat, f < i → q_ymi y (f : Int) r ≤ J 166 r) → (∀ J', x_fr q_fB3 I J' → (∀ x, ¬ x = r → J' 166 x = J 166 x) → (∀ x, J' 165 x = J 165 x) → J' 162 5 = J 162 5 → (J' 166 r ≤ 150 ∧ ∀ f : Int, (f = -1 ∨ (0 ≤ f ∧ f < (q_yR y : Int))) → q_ymi y f r + q_yto y (5 * r + 4) ≤ J' 166 r) → x_S g (k + 3) 84 Q 5 [x_r 162, x_n, x_i ((r : Int) + 1), x_n] [] (J', L, lp, tp)) → x_S g (k + 3) 84 Q 27 [x_r 162, x_n, x_i (r : Int), x_i (i : Int)] [] (J, L, lp, tp) := by
    intro j
    induction j with
    | zero =>
      intro i r J hm hr fJ b1 b2 hn
      have hcJ := q_Yc_B3 hY hc fJ
      obtain ⟨-, -, t4, -⟩ := q_yto_rg hY hr
      have e16 : J 16 (5 * r + 4) = q_yto y (5 * r + 4) := hcJ.1.2.2.1 _ (by omega)
      refine v_sBegin_L27 ?_
      rw [hcJ.1.1, show ((r : Int)).toNat = r by omega, show ((r : Int) * 5 + 4).toNat = 5 * r + 4 by omega, e16]
      refine ⟨⟨by omega, by omega⟩, ⟨by omega, by omega⟩, fun _ => ⟨⟨by omega, by omega⟩, ⟨by omega, by omega⟩, hn _ (x_fr_u (k := r) fJ (x_mem2 (b := 0) (lo := 0) (hi := 0) (x_mem2 (b := 0) (lo := 0) (hi := 0) (x_mem1 ⟨by omega, by omega⟩)))) (fun x hx => x_u_ne _ _ (fun h => hx h.2)) (fun x => x_u_ne _ _ (fun h => absurd h.1 (by decide))) rfl ?_⟩, fun q => by omega⟩
      rw [x_u_same]
      refine ⟨by omega, fun f hf => ?_⟩
      rcases hf with e | e
      · rw [e]; have := b2.1; omega
      · obtain ⟨n, rfl⟩ := Int.eq_ofNat_of_zero_le e.1
        have := b2.2 n (by omega); omega
    | succ j ih =>
      intro i r J hm hr fJ b1 b2 hn
      have hcJ := q_Yc_B3 hY hc fJ
      obtain ⟨d1, d2⟩ := q_fc_dist hR hcJ.1 (f := (i : Int)) (Or.inr ⟨by omega, by omega⟩) hr
      rw [q_fc_n] at d1 d2
      obtain ⟨-, m1, m2⟩ := q_ymi_rg hY (f := (i : Int)) (Or.inr ⟨by omega, by omega⟩) hr
      have em0 : J 17 ((i : Int) * 8 + (r : Int)).toNat * J 18 3 = q_ymi y (i : Int) r := by rw [d2, hcJ.2.2.1]; rfl
      refine v_sBegin_L27 ?_
      rw [hcJ.1.1, show ((r : Int)).toNat = r by omega, em0]
      refine ⟨⟨by omega, by omega⟩, ⟨by omega, by omega⟩, fun q => by omega, fun _ => ⟨⟨by omega, by omega⟩, d1, ⟨by omega, by omega⟩, ⟨by omega, by omega⟩, ?_⟩⟩
      have fJ' : x_fr q_fB3 I (x_u J 166 r (max (J 166 r) (q_ymi y (i : Int) r))) := x_fr_u fJ (x_mem2 (b := 0) (lo := 0) (hi := 0) (x_mem2 (b := 0) (lo := 0) (hi := 0) (x_mem1 ⟨by omega, by omega⟩)))
      refine ih (i + 1) r _ (by omega) hr fJ' (by rw [x_u_same]; omega) ?_ (fun J' f' n1 n2 n3 n4 => hn J' f' (fun x hx => (n1 x hx).trans (x_u_ne _ _ (fun h => hx h.2))) (fun x => (n2 x).trans (x_u_ne _ _ (fun h => absurd h.1 (by decide)))) n3 n4)
      rw [x_u_same]
      refine ⟨by have := b2.1; omega, fun f hf => ?_⟩
      by_cases e : f = i
      · rw [e]; omega
      · have := b2.2 f (by omega); omega
  have outer : ∀ (j r : Nat) (J : Nat → Nat → Int), r + j = q_yR y → x_fr q_fB3 I J → J 162 5 = t → (∀ x, x < r → J 165 x = 0) → (∀ x, x < r → (J 166 x ≤ 150) ∧ ∀ f : Int, (f = -1 ∨ (0 ≤ f ∧ f < (q_yR y : Int))) → q_ymi y f x + q_yto y (5 * x + 4) ≤ J 166 x) → x_S g (k + 3) 84 Q 5 [x_r 162, x_n, x_i (r : Int), x_n] [] (J, L, lp, tp) := by
    intro j
    induction j with
    | zero =>
      intro r J hm fJ h5 h0 hl
      refine v_sBegin_L5 ?_
      rw [(q_Yc_B3 hY hc fJ).1.1]
      exact ⟨⟨by omega, by omega⟩, ⟨by omega, by omega⟩, fun _ => hq J fJ h5 (fun x hx => h0 x (by omega)) (fun x hx => hl x (by omega)), fun q => by omega⟩
    | succ j ih =>
      intro r J hm fJ h5 h0 hl
      have hcJ := q_Yc_B3 hY hc fJ
      obtain ⟨d1, d2⟩ := q_fc_dist hR hcJ.1 (f := -1) (Or.inl rfl) (show r < q_yR y by omega)
      obtain ⟨-, m1, m2⟩ := q_ymi_rg hY (f := -1) (Or.inl rfl) (show r < q_yR y by omega)
      rw [show q_fc (-1) * 8 + (r : Int) = 64 + (r : Int) by rw [show q_fc (-1) = 8 from rfl]; omega] at d1 d2
      have em0 : J 17 (64 + (r : Int)).toNat * J 18 3 = q_ymi y (-1) r := by rw [d2, hcJ.2.2.1]; rfl
      refine v_sBegin_L5 ?_
      rw [hcJ.1.1, show ((r : Int)).toNat = r by omega, em0]
      refine ⟨⟨by omega, by omega⟩, ⟨by omega, by omega⟩, fun q => by omega, fun _ => ⟨⟨by omega, by omega⟩, d1, ?_⟩⟩
      have fJ' : x_fr q_fB3 I (x_u (x_u J 165 r 0) 166 r (q_ymi y (-1) r)) := x_fr_u (x_fr_u fJ (x_mem2 (b := 0) (lo := 0) (hi := 0) (x_mem1 ⟨by omega, by omega⟩))) (x_mem2 (b := 0) (lo := 0) (hi := 0) (x_mem2 (b := 0) (lo := 0) (hi := 0) (x_mem1 ⟨by omega, by omega⟩)))
      refine inner (q_yR y) 0 r _ (by omega) (by omega) fJ' (by rw [x_u_same]; omega) ⟨by rw [x_u_same]; omega, fun f hf => by omega⟩ (fun J' f' n1 n2 n3 n4 => ih (r + 1) J' (by omega) f' (n3.trans h5) (fun x hx => ?_) (fun x hx => ?_))
      · rw [n2 x, x_u_ne _ _ (fun h => absurd h.1 (by decide)), x_u_eq]
        by_cases e : x = r
        · rw [if_pos ⟨rfl, e⟩]
        · rw [if_neg (fun h => e h.2)]; exact h0 x (by omega)
      · by_cases e : x = r
        · rw [e]; exact n4
        · have e2 : J' 166 x = J 166 x := by rw [n1 x e, x_u_ne _ _ (fun h => e h.2), x_u_ne _ _ (fun h => absurd h.1 (by decide))]
          rw [e2]; exact hl x (by omega)
  refine v_sBegin ?_
  exact outer (q_yR y) 0 _ (by omega) (x_fr_u (x_fr_refl _ _) rfl) rfl (fun x hx => by omega) (fun x hx => by omega)
abbrev q_Fr (y : q_Y) (es la : Nat → Int) (m rem : Nat) (f t row : Int) (arr : Nat → Int) (r : Nat) : q_FL := if rem.testBit r = true ∧ es r ≤ t + q_ymi y f r ∧ t + q_ymi y f r ≤ la r then q_fl y es la m (q_wo rem r) (r : Int) (t + q_ymi y f r + q_yto y (5 * r + 4)) (10 * row + (r : Int)) (q_up arr r (t + q_ymi y f r)) else []
/-- what holds while rows are counted -/
def q_Co (I : Nat → Nat → Int) (lp : Nat) (y : q_Y) (es la lg : Nat → Int) (mi : Int) : Prop := q_Yc I lp y ∧ q_Sc I es la ∧ q_Sf I ∧ (∀ r, r < q_yR y → I 166 r = lg r) ∧ I 162 5 = mi
theorem q_Co_f {I I' : Nat → Nat → Int} {lp : Nat} {y : q_Y} {es la lg : Nat → Int} {mi : Int} (hY : q_Yk y) (h : q_Co I lp y es la lg mi) (hf : x_fr q_fY I I') : q_Co I' lp y es la lg mi := ⟨q_Yc_ag hY h.1 (x_fr_ag hf rfl), fun r hr => ⟨(hf _ _ rfl).trans (h.2.1 r hr).1, (hf _ _ rfl).trans (h.2.1 r hr).2.1, (h.2.1 r hr).2.2⟩, fun j hj => (hf _ _ rfl).trans (h.2.2.1 j hj), fun r hr => (hf _ _ rfl).trans (h.2.2.2.1 r hr), (hf _ _ rfl).trans h.2.2.2.2⟩
def q_CRw (g : x_G) (L : Nat → Nat → Int) (lp tp : Nat) (y : q_Y) (es la lg : Nat → Int) (mi : Int) (m : Nat) : Prop := ∀ (rem k : Nat) (f t row : Int) (arr : Nat → Int) (I : Nat → Nat → Int) (Q : x_Q), q_pc rem = m → rem < 256 → (∀ r, rem.testBit r = true → r < q_yR y) → 6 * m + 6 ≤ k → q_Co I lp y es la lg mi → (f = -1 ∨ (0 ≤ f ∧ f < (q_yR y : Int))) → 0 ≤ t → t + 150 * (m : Int) ≤ 1200 → (∀ I', x_fr q_fY I I' → (∀ x, I' 165 x = I 165 x + if rem.testBit x = true then q_ys mi x (q_fl y es la m rem f t row arr) else 0) → Q [x_i ((q_fl y es la m rem f t row arr).length : Int)] (I', L, lp, tp)) → x_X g k 87 [x_r 162, x_i (rem : Int), x_i (q_fc f), x_i t] (I, L, lp, tp) Q
theorem s_countFrom {g : x_G} {L : Nat → Nat → Int} {lp tp : Nat} {y : q_Y} (hY : q_Yk y) {es la lg : Nat → Int} {mi : Int} (hmi : -1 ≤ mi ∧ mi ≤ 999) {m : Nat} (ih : q_CRw g L lp tp y es la lg mi m) {rem k : Nat} {f t row : Int} {arr : Nat → Int} {I : Nat → Nat → Int} {Q : x_Q} (hpc : q_pc rem = m + 1) (hrem : rem < 256) (hbit : ∀ r, rem.testBit r = true → r < q_yR y) (hk : 6 * m + 9 ≤ k) (hC : q_Co I lp y es la lg mi) (hf : f = -1 ∨ (0 ≤ f ∧ f < (q_yR y : Int))) (ht0 : 0 ≤ t) (ht : t + 150 * ((m + 1 : Nat) : Int) ≤ 1200) {r : Nat} (hr : r < q_yR y) (hq : ∀ I', x_fr q_fY I I' → (∀ x, I' 165 x = I 165 x + if rem.testBit x = true then q_ys mi x (q_Fr y es la m rem f t row arr r) else 0) → Q [x_i ((q_Fr y es la m rem f t row arr r).length : Int)] (I', L, lp, tp)) : x_X g k 89 [x_r 162, x_i (r : Int), x_i (rem : Int), x_i (q_fc f), x_i t] (I, L, lp, tp) Q := by
  have hR : q_yR y ≤ 8 := by rcases hY.1.1 with q | q <;> omega
  obtain ⟨k, rfl⟩ : ∃ k', k = k' + 3 := ⟨k - 3, by omega⟩
  obtain ⟨d1, d2⟩ := q_fc_dist hR hC.1.1 hf hr
  obtain ⟨-, m1, m2⟩ := q_ymi_rg hY hf hr
  obtain ⟨-, -, t4, -⟩ := q_yto_rg hY hr
  have em0 : I 17 (q_fc f * 8 + (r : Int)).toNat * I 18 3 = q_ymi y f r := by rw [d2, hC.1.2.2.1]; rfl
  have e16 : I 16 ((r : Int) * 5 + 4).toNat = q_yto y (5 * r + 4) := by rw [show ((r : Int) * 5 + 4).toNat = 5 * r + 4 by omega]; exact hC.1.1.2.2.1 _ (by omega)
  obtain ⟨e1, e2, ⟨e3, e4⟩, e5, e6⟩ := hC.2.1 r (by omega)
  have none : ¬ (rem.testBit r = true ∧ es r ≤ t + q_ymi y f r ∧ t + q_ymi y f r ≤ la r) → Q [x_i 0] (I, L, lp, tp) := fun c => by
    have := hq I (x_fr_refl _ _) (fun x => by
      rw [show q_Fr y es la m rem f t row arr r = [] from if_neg c]
      split
      · rw [q_ys]; omega
      · omega)
    rw [show q_Fr y es la m rem f t row arr r = [] from if_neg c] at this
    exact this
  refine v_countFrom ?_
  rw [show ((r : Int)).toNat = r by omega, show ((rem : Int)).toNat = rem by omega, em0, e16, e1, e2, q_wo_eq rem r hrem (by omega)]
  refine ⟨d1, ⟨by omega, by omega⟩, ⟨by omega, by omega⟩, fun cb => ⟨⟨by omega, by omega⟩, ⟨by omega, by omega⟩, ⟨by omega, by omega⟩, fun c1 => none (by omega), fun c1 => ⟨⟨by omega, by omega⟩, fun c2 => ⟨⟨by omega, by omega⟩, ?_⟩, fun c2 => none (by omega)⟩⟩, fun cb => none (fun h => cb h.1)⟩
  have hqp := q_pc_wo hrem (show r < 8 by omega) cb
  rw [← q_fc_n r]
  refine ih (q_wo rem r) k (r : Int) (t + q_ymi y f r + q_yto y (5 * r + 4)) (10 * row + (r : Int)) (q_up arr r (t + q_ymi y f r)) I _ (by omega) (q_wo_lt rem r hrem) (fun x hx => hbit x (q_wo_in hrem (by omega) hx).1) (by omega) hC (Or.inr ⟨by omega, by omega⟩) (by omega) (by omega) (fun I' f' e' => ⟨_, rfl, ?_⟩)
  rw [show q_Fr y es la m rem f t row arr r = _ from if_pos ⟨cb, c1, c2⟩] at hq
  have hT : ∀ e ∈ q_fl y es la m (q_wo rem r) (r : Int) (t + q_ymi y f r + q_yto y (5 * r + 4)) (10 * row + (r : Int)) (q_up arr r (t + q_ymi y f r)), e.2 r = t + q_ymi y f r := fun e he => by
    rw [q_fl_out hR m _ _ _ _ _ (q_wo_lt rem r hrem) (by cases e : (q_wo rem r).testBit r with | false => rfl | true => exact absurd rfl (q_wo_in hrem (by omega) e).2) he]
    exact if_pos rfl
  have hC' := q_Co_f hY hC f'
  generalize q_fl y es la m (q_wo rem r) (r : Int) (t + q_ymi y f r + q_yto y (5 * r + 4)) (10 * row + (r : Int)) (q_up arr r (t + q_ymi y f r)) = l at *
  have ne : ∀ x, ¬ x = r → I' 165 x = I 165 x + if rem.testBit x = true then q_ys mi x l else 0 := fun x hx => by
    rw [e' x]
    by_cases c : rem.testBit x = true
    · rw [if_pos c, if_pos (q_wo_mk hrem (by omega) c hx)]
    · rw [if_neg c, if_neg (fun h => c (q_wo_in hrem (by omega) h).1)]
  have eq : I' 165 r = I 165 r := by rw [e' r, if_neg (fun h => (q_wo_in hrem (show r < 8 by omega) h).2 rfl)]; omega
  dsimp only
  rw [hC'.2.2.2.2]
  refine ⟨⟨by omega, by omega⟩, fun c3 => hq I' f' (fun x => ?_), fun c3 => hq _ (x_fr_u (k := r) f' (x_mem1 ⟨by omega, by omega⟩)) (fun x => ?_)⟩
  · by_cases e : x = r
    · rw [e, eq, if_pos cb, q_ys_no l (fun e he => by rw [hT e he]; omega)]; omega
    · exact ne x e
  · rw [x_u_eq]
    by_cases e : x = r
    · rw [if_pos ⟨rfl, e⟩, e, eq, if_pos cb, q_ys_yes l (fun e he => by rw [hT e he]; omega)]
    · rw [if_neg (fun h => e h.2)]; exact ne x e
