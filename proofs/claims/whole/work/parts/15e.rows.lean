/-! sightings, by the class: rows -/
theorem s_countRows {g : x_G} {L : Nat → Nat → Int} {lp tp : Nat} {y : q_Y} (hY : q_Yk y) {es la lg : Nat → Int} (hg : q_lgok y lg) {mi : Int} (hmi : -1 ≤ mi ∧ mi ≤ 999) : ∀ m, q_CRw g L lp tp y es la lg mi m := by
  intro m
  induction m with
  | zero =>
    intro rem k f t row arr I Q hpc hrem hbit hk hC hf ht0 ht hq
    have hR : q_yR y ≤ 8 := by rcases hY.1.1 with q | q <;> omega
    obtain ⟨k, rfl⟩ : ∃ k', k = k' + 3 := ⟨k - 3, by omega⟩
    have h0 := (q_pc_0 hrem).mp hpc
    subst h0
    have fast : ∀ a : Int, a = 0 ∨ a = 1 → x_X g k 88 [x_r 162, x_i ((0 : Nat) : Int), x_i a] (I, L, lp, tp) (fun rv w7 => ∃ z6, rv = [x_i z6] ∧ Q [x_i z6] w7) := fun a ha =>
      x_le (show 3 ≤ k by omega) (s_countOrders (k := 0) hrem ha hC.2.2.1 (fun I' f' e' => ⟨_, rfl, hq I' f' (fun x => by rw [e' x, if_neg (fun h => by simp at h), if_neg (fun h => by simp at h)])⟩))
    have loop : ∀ (j i : Nat), i + j = q_yR y → x_S g (k + 3) 87 Q 8 [x_r 162, x_i ((0 : Nat) : Int), x_i (q_fc f), x_i t, x_i 0, x_i 1000000, x_i t, x_i (i : Int), x_n] [] (I, L, lp, tp) := by
      intro j
      induction j with
      | zero =>
        intro i hm
        refine v_countRows_L8 ?_
        rw [hC.1.1.1, hC.2.2.2.2]
        refine ⟨⟨by omega, by omega⟩, ⟨by omega, by omega⟩, fun _ => ⟨by decide, fun h => absurd rfl h, fun _ => ⟨⟨by omega, by omega⟩, by decide, fun q => by omega, fun _ => ⟨⟨by omega, by omega⟩, ⟨by omega, by omega⟩, fun c => ⟨fun _ => fast 0 (Or.inl rfl), fun _ => fast 1 (Or.inr rfl)⟩, fun c => ⟨fun c2 => by omega, fun _ => fast 1 (Or.inr rfl)⟩⟩⟩⟩, fun q => by omega⟩
      | succ j ih =>
        intro i hm
        refine v_countRows_L8 ?_
        rw [hC.1.1.1]
        refine ⟨⟨by omega, by omega⟩, ⟨by omega, by omega⟩, fun q => by omega, fun _ => ⟨⟨by omega, by omega⟩, ⟨by omega, by omega⟩, fun c => by simp at c, fun _ => ih (i + 1) (by omega)⟩⟩
    exact v_countRows (loop (q_yR y) 0 (Nat.zero_add _))
  | succ m ihm =>
    intro rem k f t row arr I Q hpc hrem hbit hk hC hf ht0 ht hq
    have hR : q_yR y ≤ 8 := by rcases hY.1.1 with q | q <;> omega
    obtain ⟨k, rfl⟩ : ∃ k', k = k' + 3 := ⟨k - 3, by omega⟩
    have hE := q_bsum_nn hY hg (rem := rem) (q_yR y) 0 (Nat.zero_add _)
    have hnil := fun x => q_fl_nil hY (es := es) (la := la) (x := x) (m + 1) rem f t row arr hpc hrem hbit hf
    have hall := q_fl_all hY (es := es) (la := la) hg (m + 1) rem f t row arr hpc hrem hbit hf
    have fast : ∀ a : Int, (∀ x, rem.testBit x = true → es x ≤ t + q_ymi y f x ∧ t + q_bsum lg rem (q_yR y) 0 ≤ la x) → (a = 0 ∧ mi < t ∨ a = 1 ∧ t + q_bsum lg rem (q_yR y) 0 ≤ mi) → x_X g k 88 [x_r 162, x_i (rem : Int), x_i a] (I, L, lp, tp) (fun rv w7 => ∃ z6, rv = [x_i z6] ∧ Q [x_i z6] w7) := by
      intro a hx ha
      obtain ⟨a1, a2⟩ := hall hx
      refine x_le (show 3 ≤ k by omega) (s_countOrders (k := 0) hrem (by omega) hC.2.2.1 (fun I' f' e' => ⟨_, rfl, ?_⟩))
      rw [hpc] at e' ⊢
      rw [← a1] at e' ⊢
      refine hq I' f' (fun x => ?_)
      rw [e' x]
      by_cases c : rem.testBit x = true
      · rw [if_pos c]
        rcases ha with ⟨ha, hm⟩ | ⟨ha, hm⟩
        · rw [if_neg (fun h => by omega), q_ys_no _ (fun e he => by have := (a2 e he x c).1; omega)]
        · rw [if_pos ⟨ha, c⟩, q_ys_yes _ (fun e he => by have := (a2 e he x c).2; omega)]
      · rw [if_neg c, if_neg (fun h => c h.2)]
    have slow : x_S g (k + 3) 87 Q 90 [x_r 162, x_i (rem : Int), x_i (q_fc f), x_i t, x_n, x_n, x_n, x_i 0, x_i 0] [] (I, L, lp, tp) := by
      have hq' : ∀ I', x_fr q_fY I I' → (∀ x, I' 165 x = I 165 x + if rem.testBit x = true then q_ys mi x (q_cat (q_Fr y es la m rem f t row arr) (q_yR y) 0) else 0) → Q [x_i ((q_cat (q_Fr y es la m rem f t row arr) (q_yR y) 0).length : Int)] (I', L, lp, tp) := fun I' h1 h2 => hq I' h1 h2
      have loop : ∀ (j i : Nat) (n : Int) (J : Nat → Nat → Int), i + j = q_yR y → x_fr q_fY I J → (∀ I', x_fr q_fY I I' → (∀ x, I' 165 x = J 165 x + if rem.testBit x = true then q_ys mi x (q_cat (q_Fr y es la m rem f t row arr) j i) else 0) → Q [x_i (n + ((q_cat (q_Fr y es la m rem f t row arr) j i).length : Int))] (I', L, lp, tp)) → x_S g (k + 3) 87 Q 90 [x_r 162, x_i (rem : Int), x_i (q_fc f), x_i t, x_n, x_n, x_n, x_i n, x_i (i : Int)] [] (J, L, lp, tp) := by
        intro j
        induction j with
        | zero =>
          intro i n J hm fJ hq
          have hCJ := q_Co_f hY hC fJ
          have := hq J fJ (fun x => by rw [q_cat]; split <;> simp [q_ys])
          rw [q_cat] at this
          refine v_countRows_L90 ?_
          rw [hCJ.1.1.1]
          refine ⟨⟨by omega, by omega⟩, ⟨by omega, by omega⟩, fun _ => ?_, fun q => by omega⟩
          rw [show n = n + ((([] : q_FL).length : Nat) : Int) from (Int.add_zero n).symm]
          exact this
        | succ j ih =>
          intro i n J hm fJ hq
          have hCJ := q_Co_f hY hC fJ
          rw [q_cat] at hq
          refine v_countRows_L90 ?_
          rw [hCJ.1.1.1]
          refine ⟨⟨by omega, by omega⟩, ⟨by omega, by omega⟩, fun q => by omega, fun _ => s_countFrom hY hmi ihm (row := row) (arr := arr) hpc hrem hbit (by omega) hCJ hf ht0 ht (show i < q_yR y by omega) (fun I' f' e' => ⟨_, rfl, ?_⟩)⟩
          refine ih (i + 1) _ I' (by omega) (x_fr_trans fJ f') (fun I'' f'' e'' => ?_)
          have := hq I'' f'' (fun x => by
            rw [e'' x, e' x]
            by_cases c : rem.testBit x = true
            · rw [if_pos c, if_pos c, if_pos c, q_ys_app]; omega
            · rw [if_neg c, if_neg c, if_neg c]; omega)
          rw [List.length_append, Int.natCast_add, ← Int.add_assoc] at this
          exact this
      exact loop (q_yR y) 0 0 I (Nat.zero_add _) (x_fr_refl _ _) (fun I' h1 h2 => by rw [Int.zero_add]; exact hq' I' h1 h2)
    have loop : ∀ (j i : Nat) (v4 v5 v6 : Int), i + j = q_yR y → (v4 = 0 ∨ v4 = 1) → (v4 = 0 → ∀ x, x < i → rem.testBit x = true → es x ≤ t + q_ymi y f x) → 0 ≤ v5 → v5 ≤ 1000000 → (∀ x, x < i → rem.testBit x = true → v5 ≤ la x) → v6 + q_bsum lg rem j i = t + q_bsum lg rem (q_yR y) 0 → 0 ≤ v6 → x_S g (k + 3) 87 Q 8 [x_r 162, x_i (rem : Int), x_i (q_fc f), x_i t, x_i v4, x_i v5, x_i v6, x_i (i : Int), x_n] [] (I, L, lp, tp) := by
      intro j
      induction j with
      | zero =>
        intro i v4 v5 v6 hm h4 h4' h5 h5' h5l h6 h6'
        rw [q_bsum, Int.add_zero] at h6
        have ok : v4 = 0 → v6 ≤ v5 → ∀ x, rem.testBit x = true → es x ≤ t + q_ymi y f x ∧ t + q_bsum lg rem (q_yR y) 0 ≤ la x := fun a b x hx => ⟨h4' a x (by have := hbit x hx; omega) hx, by have := h5l x (by have := hbit x hx; omega) hx; omega⟩
        refine v_countRows_L8 ?_
        rw [hC.1.1.1, hC.2.2.2.2]
        refine ⟨⟨by omega, by omega⟩, ⟨by omega, by omega⟩, fun _ => ⟨by rcases h4 with h | h <;> rw [h] <;> decide, fun _ => slow, fun c4 => ⟨⟨by omega, by omega⟩, ⟨by omega, by omega⟩, fun _ => slow, fun c5 => ⟨⟨by omega, by omega⟩, ⟨by omega, by omega⟩, fun c6 => ⟨fun c7 => fast 0 (ok c4 c5) (by omega), fun c7 => fast 1 (ok c4 c5) (by omega)⟩, fun c6 => ⟨fun c7 => slow, fun c7 => fast 1 (ok c4 c5) (by omega)⟩⟩⟩⟩, fun q => by omega⟩
      | succ j ih =>
        intro i v4 v5 v6 hm h4 h4' h5 h5' h5l h6 h6'
        have hi : i < q_yR y := by omega
        obtain ⟨d1, d2⟩ := q_fc_dist hR hC.1.1 hf hi
        obtain ⟨-, m1, m2⟩ := q_ymi_rg hY hf hi
        have em0 : I 17 (q_fc f * 8 + (i : Int)).toNat * I 18 3 = q_ymi y f i := by rw [d2, hC.1.2.2.1]; rfl
        obtain ⟨e1, e2, ⟨e3, e4⟩, e5, e6⟩ := hC.2.1 i (by omega)
        obtain ⟨g1, g2⟩ := hg i hi
        have g3 := g2 f hf
        obtain ⟨-, -, t4, -⟩ := q_yto_rg hY hi
        have nx := q_bsum_nn hY hg (rem := rem) j (i + 1) (by omega)
        rw [q_bsum] at h6
        refine v_countRows_L8 ?_
        rw [hC.1.1.1, show ((i : Int)).toNat = i by omega, show ((rem : Int)).toNat = rem by omega, em0, e1, e2, hC.2.2.2.1 i hi]
        refine ⟨⟨by omega, by omega⟩, ⟨by omega, by omega⟩, fun q => by omega, fun _ => ⟨⟨by omega, by omega⟩, ⟨by omega, by omega⟩, fun cb => ⟨d1, ⟨by omega, by omega⟩, ⟨by omega, by omega⟩, ⟨by omega, by omega⟩, fun c1 => ⟨⟨by omega, by omega⟩, fun c2 => ⟨⟨by omega, by omega⟩, ?_⟩, fun c2 => ⟨⟨by omega, by omega⟩, ?_⟩⟩, fun c1 => ?_⟩, fun cb => ?_⟩⟩
        · rw [if_pos cb] at h6
          rw [show x_or v4 0 = v4 by rcases h4 with h | h <;> rw [h] <;> decide]
          refine ih (i + 1) v4 _ _ (by omega) h4 (fun h x hx hb => ?_) (by omega) (by omega) (fun x hx hb => ?_) (by omega) (by omega)
          · by_cases e : x = i
            · rw [e]; exact c2
            · exact h4' h x (by omega) hb
          · by_cases e : x = i
            · rw [e]; omega
            · have := h5l x (by omega) hb; omega
        · rw [if_pos cb] at h6
          rw [show x_or v4 1 = 1 by rcases h4 with h | h <;> rw [h] <;> decide]
          refine ih (i + 1) 1 _ _ (by omega) (Or.inr rfl) (fun h => absurd h (by decide)) (by omega) (by omega) (fun x hx hb => ?_) (by omega) (by omega)
          by_cases e : x = i
          · rw [e]; omega
          · have := h5l x (by omega) hb; omega
        · have hn := hnil i cb c1
          rw [hn] at hq
          exact hq I (x_fr_refl _ _) (fun x => by split <;> simp [q_ys])
        · rw [if_neg cb] at h6
          refine ih (i + 1) v4 v5 v6 (by omega) h4 (fun h x hx hb => ?_) h5 h5' (fun x hx hb => ?_) (by omega) h6'
          · by_cases e : x = i
            · rw [e] at hb; exact absurd hb cb
            · exact h4' h x (by omega) hb
          · by_cases e : x = i
            · rw [e] at hb; exact absurd hb cb
            · exact h5l x (by omega) hb
    exact v_countRows (loop (q_yR y) 0 0 1000000 t (Nat.zero_add _) (Or.inl rfl) (fun _ x hx => by omega) (by decide) (by decide) (fun x hx => by omega) rfl ht0)
