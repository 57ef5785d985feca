/-! sightings, by the class: the calls -/
def q_fa (z : q_Z) (es la : Nat → Int) : q_FL := q_fl (q_zy z) es la (q_yR (q_zy z)) (2 ^ q_yR (q_zy z) - 1) (-1) 0 0 (fun _ => 0)
def q_ev (G : Nat → Int) : Nat → Nat → Nat → Nat
  | 0, _, b => b
  | k + 1, i, b => q_ev G k (i + 1) (if G i < G b then i else b)
def q_le2 (a : Int) (l : q_FL) (x : Nat) : Int := max (2 * q_ys a x l - (l.length : Int)) (-(2 * q_ys a x l - (l.length : Int)))
def q_aFits (z : q_Z) (es la : Nat → Int) (i : Int) : Int := if ¬ q_yR (q_zy z) = 0 ∧ -1 ≤ i then (if i = -1 then ((q_fa z es la).length : Int) else q_nth (q_fa z es la) i.toNat) else -1
def q_aSecond (z : q_Z) (es la : Nat → Int) : Int := if ¬ q_yR (q_zy z) = 0 then (if (q_fa z es la).length = 0 then 1 else 0) else -1
def q_aAsk (z : q_Z) (es la : Nat → Int) (t : Int) : Int := if ¬ q_yR (q_zy z) = 0 ∧ (0 ≤ t ∧ t ≤ 999) then (if (q_fa z es la).length = 0 then -1 else ((q_ev (q_le2 t (q_fa z es la)) (q_yR (q_zy z) - 1) 1 0 : Nat) : Int)) else -1
theorem q_fa_len {z : q_Z} (hZ : q_Zk z) (es la : Nat → Int) : (q_fa z es la).length ≤ 16777216 := by
  have hR := q_ZR hZ
  have := q_fl_len (es := es) (la := la) hR (q_yR (q_zy z)) (2 ^ q_yR (q_zy z) - 1) (-1) 0 0 (fun _ => 0)
  have h8 : 8 ^ q_yR (q_zy z) ≤ 8 ^ 8 := Nat.pow_le_pow_right (by decide) hR
  exact Nat.le_trans this h8
theorem q_ev_rg {G : Nat → Int} {R : Nat} : ∀ k i b, i + k = R → b < R → q_ev G k i b < R
  | 0, i, b, h, hb => hb
  | k + 1, i, b, h, hb => by
    rw [q_ev]
    refine q_ev_rg k (i + 1) _ (by omega) ?_
    split <;> omega
theorem q_nth_rg {B : Int} : ∀ (l : q_FL) (b : Nat), (∀ e ∈ l, -1 ≤ e.1 ∧ e.1 ≤ B) → -1 ≤ B → -1 ≤ q_nth l b ∧ q_nth l b ≤ B
  | [], b, h, hB => by rw [q_nth]; omega
  | e :: l, 0, h, hB => by rw [q_nth]; exact h e (List.mem_cons_self ..)
  | e :: l, b + 1, h, hB => by rw [q_nth]; exact q_nth_rg l b (fun e he => h e (List.mem_cons_of_mem _ he)) hB
theorem q_fl_row {y : q_Y} (hR : q_yR y ≤ 8) {es la : Nat → Int} : ∀ (m rem : Nat) (f t row : Int) (arr : Nat → Int) (e : Int × (Nat → Int)), q_rw row m → e ∈ q_fl y es la m rem f t row arr → 0 ≤ e.1 ∧ e.1 ≤ 99999999
  | 0, rem, f, t, row, arr, e, hw, he => by
    rw [q_fl] at he
    rw [List.mem_singleton.mp he]
    exact q_rw_le hw
  | m + 1, rem, f, t, row, arr, e, hw, he => by
    rw [q_fl] at he
    obtain ⟨r, h1, h2, h3⟩ := q_cat_mem _ _ he
    by_cases c : rem.testBit r = true ∧ es r ≤ t + q_ymi y f r ∧ t + q_ymi y f r ≤ la r
    · rw [if_pos c] at h3
      exact q_fl_row hR m _ _ _ _ _ e (q_rw_step hw (by omega)) h3
    · rw [if_neg c] at h3; cases h3
theorem q_fa_nth {z : q_Z} (hZ : q_Zk z) (es la : Nat → Int) (b : Nat) : -1 ≤ q_nth (q_fa z es la) b ∧ q_nth (q_fa z es la) b ≤ 99999999 := by
  have hR := q_ZR hZ
  refine q_nth_rg _ b (fun e he => ?_) (by decide)
  have := q_fl_row hR _ _ _ _ _ _ e (q_rw8 _ hR) he
  omega
theorem q_Co_begin {I I' : Nat → Nat → Int} {lp : Nat} {y : q_Y} {es la : Nat → Int} {t : Int} (hY : q_Yk y) (hc : q_Yc I lp y) (hs : q_Sc I es la) (h6 : q_Sf I) (hf : x_fr q_fB3 I I') (h5 : I' 162 5 = t) : q_Co I' lp y es la (I' 166) t := ⟨q_Yc_B3 hY hc hf, fun r hr => ⟨(hf _ _ rfl).trans (hs r hr).1, (hf _ _ rfl).trans (hs r hr).2.1, (hs r hr).2.2⟩, fun j hj => (hf _ _ rfl).trans (h6 j hj), fun _ _ => rfl, h5⟩
theorem s_fitting {g : x_G} {k : Nat} {Q : x_Q} {I L : Nat → Nat → Int} {lp tp : Nat} {z : q_Z} (hZ : q_Zk z) (hc : q_ZC I lp z) {es la : Nat → Int} (hs : q_Sc I es la) (h6 : q_Sf I) (hq : ∀ I', x_fr q_fB3 I I' → Q [x_i ((q_fa z es la).length : Int)] (I', L, lp, tp)) : x_X g (k + 60) 83 [x_r 162] (I, L, lp, tp) Q := by
  have hR := q_ZR hZ
  have hp := q_pow8 hR
  refine v_sFitting (k := k + 58) (x_le (show 3 ≤ k + 58 by omega) (s_begin (k := 0) hZ.1 hc.1 (fun I1 f1 e5 e0 hg => ⟨rfl, ?_⟩)))
  have hC := q_Co_begin hZ.1 hc.1 hs h6 f1 e5
  dsimp only
  rw [hC.1.1.1, q_every _ (by omega)]
  refine s_countRows hZ.1 hg (by decide) (q_yR (q_zy z)) (2 ^ q_yR (q_zy z) - 1) (k + 58) (-1) 0 0 (fun _ => 0) I1 _ (q_pc_every hR) (by omega) (fun r hr => by rw [q_every_bit] at hr; simpa using hr) (by omega) hC (Or.inl rfl) (by decide) (by omega) (fun I' f' _ => ⟨_, rfl, hq I' (x_fr_trans f1 (x_fr_mono f' rfl))⟩)
theorem s_evenest {g : x_G} {k : Nat} {Q : x_Q} {I L : Nat → Nat → Int} {lp tp : Nat} {z : q_Z} (hZ : q_Zk z) (h0 : ¬ q_yR (q_zy z) = 0) (hc : q_ZC I lp z) {es la : Nat → Int} (hs : q_Sc I es la) (h6 : q_Sf I) {t : Int} (ht : 0 ≤ t ∧ t ≤ 999) (hq : ∀ I', x_fr q_fB3 I I' → Q [x_i (if (q_fa z es la).length = 0 then -1 else ((q_ev (q_le2 t (q_fa z es la)) (q_yR (q_zy z) - 1) 1 0 : Nat) : Int))] (I', L, lp, tp)) : x_X g (k + 60) 86 [x_r 162, x_i t] (I, L, lp, tp) Q := by
  have hR := q_ZR hZ
  have hp := q_pow8 hR
  have hl := q_fa_len hZ es la
  refine v_evenest (k := k + 58) (x_le (show 3 ≤ k + 58 by omega) (s_begin (k := 0) hZ.1 hc.1 (fun I1 f1 e5 e0 hg => ⟨rfl, ?_⟩)))
  have hC := q_Co_begin hZ.1 hc.1 hs h6 f1 e5
  dsimp only
  rw [hC.1.1.1, q_every _ (by omega)]
  refine s_countRows hZ.1 hg ⟨by omega, by omega⟩ (q_yR (q_zy z)) (2 ^ q_yR (q_zy z) - 1) (k + 58) (-1) 0 0 (fun _ => 0) I1 _ (q_pc_every hR) (by omega) (fun r hr => by rw [q_every_bit] at hr; simpa using hr) (by omega) hC (Or.inl rfl) (by decide) (by omega) (fun I' f' e' => ⟨_, rfl, ?_⟩)
  have el : q_fl (q_zy z) es la (q_yR (q_zy z)) (2 ^ q_yR (q_zy z) - 1) (-1) 0 0 (fun _ => 0) = q_fa z es la := rfl
  rw [el] at e' ⊢
  have hC' := q_Co_f hZ.1 hC f'
  have e65 : ∀ x, x < q_yR (q_zy z) → I' 165 x = q_ys t x (q_fa z es la) := fun x hx => by
    rw [e' x, e0 x hx, if_pos (by rw [q_every_bit]; simpa using hx)]; omega
  have fr : x_fr q_fB3 I I' := x_fr_trans f1 (x_fr_mono f' rfl)
  refine ⟨⟨by omega, by omega⟩, fun c => ?_, fun c => by have := hq I' fr; rw [if_pos (by omega)] at this; exact this⟩
  have hq' := hq I' fr
  rw [if_neg (by omega)] at hq'
  have loop : ∀ (j i b : Nat), i + j = q_yR (q_zy z) → b < q_yR (q_zy z) → Q [x_i ((q_ev (q_le2 t (q_fa z es la)) j i b : Nat) : Int)] (I', L, lp, tp) → x_S g (k + 58 + 2) 86 Q 20 [x_r 162, x_n, x_i ((q_fa z es la).length : Int), x_i (b : Int), x_i (i : Int)] [] (I', L, lp, tp) := by
    intro j
    induction j with
    | zero =>
      intro i b hm hb hq
      refine v_evenest_L20 ?_
      rw [hC'.1.1.1]
      exact ⟨⟨by omega, by omega⟩, ⟨by omega, by omega⟩, fun _ => hq, fun q => by omega⟩
    | succ j ih =>
      intro i b hm hb hq
      rw [q_ev] at hq
      have r1 := q_ys_rg (a := t) (x := i) (q_fa z es la)
      have r2 := q_ys_rg (a := t) (x := b) (q_fa z es la)
      refine v_evenest_L20 ?_
      rw [hC'.1.1.1, show ((i : Int)).toNat = i by omega, show ((b : Int)).toNat = b by omega, e65 i (by omega), e65 b hb]
      refine ⟨⟨by omega, by omega⟩, ⟨by omega, by omega⟩, fun q => by omega, fun _ => ⟨⟨by omega, by omega⟩, ⟨by omega, by omega⟩, ⟨by omega, by omega⟩, ⟨by omega, by omega⟩, ⟨by omega, by omega⟩, ⟨by omega, by omega⟩, fun c => ?_, fun c => ?_⟩⟩
      · rw [if_neg (by unfold q_le2; omega)] at hq
        exact ih (i + 1) b (by omega) hb hq
      · rw [if_pos (by unfold q_le2; omega)] at hq
        exact ih (i + 1) i (by omega) (by omega) hq
  exact loop (q_yR (q_zy z) - 1) 1 0 (by omega) (by omega) hq'
theorem s_fitRow {g : x_G} {k : Nat} {Q : x_Q} {I L : Nat → Nat → Int} {lp tp : Nat} {z : q_Z} (hZ : q_Zk z) (h0 : ¬ q_yR (q_zy z) = 0) (hc : q_ZC I lp z) {es la : Nat → Int} (hs : q_Sc I es la) (h6 : q_Sf I) {i : Nat} (hi : i < 2147483648) (hq : ∀ I', x_fr q_fB3 I I' → Q [x_i (q_nth (q_fa z es la) i)] (I', L, lp, tp)) : x_X g (k + 70) 85 [x_r 162, x_i (i : Int)] (I, L, lp, tp) Q := by
  have hR := q_ZR hZ
  have hp := q_pow8 hR
  refine v_fitRow (k := k + 67) (x_le (show 3 ≤ k + 67 by omega) (s_begin (k := 0) hZ.1 hc.1 (fun I1 f1 e5 e0 hg => ⟨rfl, ?_⟩)))
  have hC := q_Co_begin hZ.1 hc.1 hs h6 f1 e5
  dsimp only
  rw [hC.1.1.1, q_every _ (by omega)]
  have main : ∀ (m p rem : Nat) (f t row : Int) (arr : Nat → Int) (b : Nat) (J : Nat → Nat → Int), p + m = q_yR (q_zy z) → q_pc rem = m → rem < 256 → (∀ r, rem.testBit r = true → r < q_yR (q_zy z)) → (f = -1 ∨ (0 ≤ f ∧ f < (q_yR (q_zy z) : Int))) → 0 ≤ t → t + 150 * (m : Int) ≤ 1200 → b < 2147483648 → (m = 0 → b = 0) → x_fr q_fY I1 J → (∀ I', x_fr q_fY I1 I' → Q [x_i (q_nth (q_fl (q_zy z) es la m rem f t row arr) b)] (I', L, lp, tp)) → x_S g (k + 67 + 3) 85 Q 18 [x_r 162, x_n, x_i (rem : Int), x_i (q_fc f), x_i t, x_i row, x_i (b : Int), x_i (p : Int), x_n, x_n, x_n] [] (J, L, lp, tp) := by
    intro m
    induction m with
    | zero =>
      intro p rem f t row arr b J hp' hpc hrem hbit hf ht0 ht hb hb0 fJ hq
      have hCJ := q_Co_f hZ.1 hC fJ
      have := hq J fJ
      rw [hb0 rfl] at this
      refine v_fitRow_L18 ?_
      rw [hCJ.1.1.1]
      exact ⟨⟨by omega, by omega⟩, ⟨by omega, by omega⟩, fun _ => this, fun q => by omega⟩
    | succ m ihm =>
      intro p rem f t row arr b J hp' hpc hrem hbit hf ht0 ht hb hb0 fJ hq
      have hCJ := q_Co_f hZ.1 hC fJ
      have hq' : ∀ I', x_fr q_fY I1 I' → Q [x_i (q_nth (q_cat (q_Fr (q_zy z) es la m rem f t row arr) (q_yR (q_zy z)) 0) b)] (I', L, lp, tp) := fun I' h => hq I' h
      -- a room is chosen
      have chosen : ∀ (r b : Nat) (J : Nat → Nat → Int), r < q_yR (q_zy z) → b < (q_Fr (q_zy z) es la m rem f t row arr r).length → b < 2147483648 → x_fr q_fY I1 J → (∀ I', x_fr q_fY I1 I' → Q [x_i (q_nth (q_Fr (q_zy z) es la m rem f t row arr r) b)] (I', L, lp, tp)) → (0 ≤ q_fc f * 8 + (r : Int) ∧ q_fc f * 8 + (r : Int) < 72) ∧ ((0 ≤ (r : Int) * 5 + 4 ∧ (r : Int) * 5 + 4 < 40) ∧ x_S g (k + 67 + 3) 85 Q 18 [x_r 162, x_n, x_i (x_and (rem : Int) (x_xor (x_shl 1 (r : Int)) (-1))), x_i (r : Int), x_i (t + (J 17 (q_fc f * 8 + (r : Int)).toNat * J 18 3 + J 16 ((r : Int) * 5 + 4).toNat)), x_i (10 * row + (r : Int)), x_i (b : Int), x_i ((p : Int) + 1), x_n, x_n, x_n] [] (J, L, lp, tp)) := by
        intro r b J hr hbl hb fJ hq
        have hCJ := q_Co_f hZ.1 hC fJ
        obtain ⟨d1, d2⟩ := q_fc_dist hR hCJ.1.1 hf hr
        obtain ⟨-, m1, m2⟩ := q_ymi_rg hZ.1 hf hr
        obtain ⟨-, -, t4, -⟩ := q_yto_rg hZ.1 hr
        have em0 : J 17 (q_fc f * 8 + (r : Int)).toNat * J 18 3 = q_ymi (q_zy z) f r := by rw [d2, hCJ.1.2.2.1]; rfl
        have e16 : J 16 ((r : Int) * 5 + 4).toNat = q_yto (q_zy z) (5 * r + 4) := by rw [show ((r : Int) * 5 + 4).toNat = 5 * r + 4 by omega]; exact hCJ.1.1.2.2.1 _ (by omega)
        refine ⟨d1, ⟨by omega, by omega⟩, ?_⟩
        by_cases c : rem.testBit r = true ∧ es r ≤ t + q_ymi (q_zy z) f r ∧ t + q_ymi (q_zy z) f r ≤ la r
        · rw [show q_Fr (q_zy z) es la m rem f t row arr r = _ from if_pos c] at hq hbl
          have hqp := q_pc_wo hrem (show r < 8 by omega) c.1
          have := ihm (p + 1) (q_wo rem r) (r : Int) (t + q_ymi (q_zy z) f r + q_yto (q_zy z) (5 * r + 4)) (10 * row + (r : Int)) (q_up arr r (t + q_ymi (q_zy z) f r)) b J (by omega) (by omega) (q_wo_lt rem r hrem) (fun x hx => hbit x (q_wo_in hrem (by omega) hx).1) (Or.inr ⟨by omega, by omega⟩) (by omega) (by omega) hb (fun e => by
            subst e
            rw [q_fl] at hbl
            exact Nat.lt_one_iff.mp hbl) fJ hq
          rw [em0, e16, q_wo_eq rem r hrem (by omega), ← Int.add_assoc]
          rw [q_fc_n] at this
          exact this
        · rw [show q_Fr (q_zy z) es la m rem f t row arr r = [] from if_neg c] at hbl
          simp at hbl
      have loop : ∀ (j i b : Nat) (J : Nat → Nat → Int), i + j = q_yR (q_zy z) → b < 2147483648 → x_fr q_fY I1 J → (∀ I', x_fr q_fY I1 I' → Q [x_i (q_nth (q_cat (q_Fr (q_zy z) es la m rem f t row arr) j i) b)] (I', L, lp, tp)) → x_S g (k + 67 + 3) 85 Q 28 [x_r 162, x_n, x_i (rem : Int), x_i (q_fc f), x_i t, x_i row, x_i (b : Int), x_i (p : Int), x_i (-1), x_i (i : Int), x_n] [] (J, L, lp, tp) := by
        intro j
        induction j with
        | zero =>
          intro i b J hm hb fJ hq
          have hCJ := q_Co_f hZ.1 hC fJ
          refine v_fitRow_L28 ?_
          rw [hCJ.1.1.1]
          exact ⟨⟨by omega, by omega⟩, ⟨by omega, by omega⟩, fun _ => ⟨by decide, fun h => absurd rfl h, fun _ => hq J fJ⟩, fun q => by omega⟩
        | succ j ih =>
          intro i b J hm hb fJ hq
          have hCJ := q_Co_f hZ.1 hC fJ
          rw [q_cat] at hq
          have hlen : (q_Fr (q_zy z) es la m rem f t row arr i).length < 2147483648 := by
            have h8 : 8 ^ m ≤ 8 ^ 8 := Nat.pow_le_pow_right (by decide) (by omega)
            have : (q_Fr (q_zy z) es la m rem f t row arr i).length ≤ 8 ^ m := by
              show (if _ then _ else _ : q_FL).length ≤ _
              split
              · exact q_fl_len hR m _ _ _ _ _
              · exact Nat.zero_le _
            omega
          refine v_fitRow_L28 ?_
          rw [hCJ.1.1.1]
          refine ⟨⟨by omega, by omega⟩, ⟨by omega, by omega⟩, fun q => by omega, fun _ => ⟨by decide, fun h => absurd rfl h, fun _ => s_countFrom hZ.1 (by decide) (s_countRows hZ.1 hg (by decide) m) (row := row) (arr := arr) hpc hrem hbit (by omega) hCJ hf ht0 ht (show i < q_yR (q_zy z) by omega) (fun I' f' _ => ⟨_, rfl, ⟨by omega, by omega⟩, ⟨by omega, by omega⟩, fun c => ?_, fun c => ?_⟩)⟩⟩
          · rw [show (b : Int) - ((q_Fr (q_zy z) es la m rem f t row arr i).length : Int) = ((b - (q_Fr (q_zy z) es la m rem f t row arr i).length : Nat) : Int) by omega]
            refine ih (i + 1) _ I' (by omega) (by omega) (x_fr_trans fJ f') (fun I'' f'' => ?_)
            have := hq I'' f''
            rw [q_nth_ge _ _ _ (by omega)] at this
            exact this
          · have hch := chosen i b I' (by omega) (by omega) hb (x_fr_trans fJ f') (fun I'' f'' => by
              have := hq I'' f''
              rw [q_nth_lt _ _ _ (by omega)] at this
              exact this)
            have hCI := q_Co_f hZ.1 hC (x_fr_trans fJ f')
            refine v_fitRow_L28 ?_
            rw [hCI.1.1.1]
            exact ⟨⟨by omega, by omega⟩, ⟨by omega, by omega⟩, fun _ => ⟨⟨by omega, by omega⟩, fun _ => hch, fun h => by omega⟩, fun _ => ⟨⟨by omega, by omega⟩, fun _ => hch, fun h => by omega⟩⟩
      refine v_fitRow_L18 ?_
      rw [hCJ.1.1.1]
      exact ⟨⟨by omega, by omega⟩, ⟨by omega, by omega⟩, fun q => by omega, fun _ => loop (q_yR (q_zy z)) 0 b J (Nat.zero_add _) hb fJ hq'⟩
  exact main (q_yR (q_zy z)) 0 (2 ^ q_yR (q_zy z) - 1) (-1) 0 0 (fun _ => 0) i I1 (Nat.zero_add _) (q_pc_every hR) (by omega) (fun r hr => by rw [q_every_bit] at hr; simpa using hr) (Or.inl rfl) (by decide) (by omega) hi (fun h => absurd h h0) (x_fr_refl _ _) (fun I' f' => hq I' (x_fr_trans f1 (x_fr_mono f' rfl)))
