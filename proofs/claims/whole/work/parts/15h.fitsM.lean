/-! sightings, by the reference -/
abbrev q_fTs : List (Nat × Nat × Nat) := [(199, 0, 8), (200, 0, 8), (179, 56, 57), (179, 58, 59)]
def q_Yl (I : Nat → Nat → Int) (y : q_Y) : Prop := I 179 24 = (q_yR y : Int) ∧ (∀ k, k < 5 * q_yR y → I 186 k = q_yto y k) ∧ I 190 24 = q_ypa y
theorem q_Yl_f {I I' : Nat → Nat → Int} {y : q_Y} (h : q_Yl I y) (hf : x_fr q_fTs I I') : q_Yl I' y := ⟨(hf _ _ rfl).trans h.1, fun k hk => (hf _ _ rfl).trans (h.2.1 k hk), (hf _ _ rfl).trans h.2.2⟩
theorem q_Sm_f {I I' : Nat → Nat → Int} {es la : Nat → Int} {n : Nat} (h : q_Sm I es la n) (hf : x_fr q_fTs I I') : q_Sm I' es la n := q_Sm_eq h (hf _ _ rfl) (fun _ => hf _ _ rfl) (fun _ => hf _ _ rfl) (fun _ => hf _ _ rfl)
theorem m_goFits {g : x_G} {L : Nat → Nat → Int} {lp tp : Nat} {y : q_Y} (hY : q_Yk y) {es la : Nat → Int} {ns : Nat} {w a : Int} (hw : x_rg w) (ha : x_rg a) : ∀ (m rem k : Nat) (f t row n fr : Int) (arr : Nat → Int) (I : Nat → Nat → Int) (Q : x_Q), q_pc rem = m → rem < 256 → (∀ r, rem.testBit r = true → r < q_yR y) → 2 * m + 4 ≤ k → q_Yl I y → q_Sm I es la ns → (∀ x, x < q_yR y → rem.testBit x = false → I 199 x = arr x ∧ 0 ≤ arr x ∧ arr x ≤ 2000) → I 179 56 = n → 0 ≤ n → n + ((q_fl y es la m rem f t row arr).length : Int) ≤ 100000000 → I 179 57 = w → I 179 58 = fr → I 179 59 = a → (f = -1 ∨ (0 ≤ f ∧ f < (q_yR y : Int))) → 0 ≤ t → t + 150 * (m : Int) ≤ 1200 → (∀ I', x_fr q_fTs I I' → I' 179 56 = n + ((q_fl y es la m rem f t row arr).length : Int) → I' 179 58 = q_keep w n fr (q_fl y es la m rem f t row arr) → (∀ x, x < q_yR y → I' 200 x = I 200 x + (2 * q_ys a x (q_fl y es la m rem f t row arr) - ((q_fl y es la m rem f t row arr).length : Int))) → (∀ x, x < q_yR y → rem.testBit x = false → I' 199 x = I 199 x) → Q [] (I', L, lp, tp)) → x_X g k 261 [x_r 179, x_i (rem : Int), x_i f, x_i t, x_i row] (I, L, lp, tp) Q := by
  intro m
  induction m with
  | zero =>
    intro rem k f t row n fr arr I Q hpc hrem hbit hk hy hs h199 h56 hn hnl h57 h58 h59 hf ht0 ht hq
    have hR : q_yR y ≤ 8 := by rcases hY.1.1 with q | q <;> omega
    obtain ⟨k, rfl⟩ : ∃ k', k = k' + 2 := ⟨k - 2, by omega⟩
    have h0 := (q_pc_0 hrem).mp hpc
    subst h0
    rw [q_fl] at hq hnl
    have loop : ∀ (j i : Nat) (J : Nat → Nat → Int), i + j = q_yR y → x_fr q_fTs I J → J 179 56 = n + 1 → J 179 58 = (if n = w then row else fr) → (∀ x, J 199 x = I 199 x) → (∀ x, x < i → J 200 x = I 200 x + (if arr x ≤ a then 1 else -1)) → (∀ x, i ≤ x → J 200 x = I 200 x) → x_S g (k + 2) 261 Q 18 [x_r 179, x_n, x_n, x_n, x_n, x_i (i : Int)] [] (J, L, lp, tp) := by
      intro j
      induction j with
      | zero =>
        intro i J hm fJ j56 j58 j199 h1 h2
        refine v_goFits_L18 ?_
        rw [(q_Yl_f hy fJ).1]
        refine ⟨⟨by omega, by omega⟩, ⟨by omega, by omega⟩, fun _ => hq J fJ j56 (by rw [j58]; rfl) (fun x hx => ?_) (fun x _ _ => j199 x), fun q => by omega⟩
        rw [h1 x (by omega)]
        show _ = I 200 x + (2 * ((if arr x ≤ a then 1 else 0) + 0) - ((0 + 1 : Nat) : Int))
        split <;> omega
      | succ j ih =>
        intro i J hm fJ j56 j58 j199 h1 h2
        obtain ⟨e1, e2, e3⟩ := h199 i (by omega) (by simp)
        refine v_goFits_L18 ?_
        rw [(q_Yl_f hy fJ).1, show ((i : Int)).toNat = i by omega, j199, e1, fJ 179 59 rfl, h59]
        have nx : ∀ v : Int, v = (if arr i ≤ a then 1 else -1) → x_S g (k + 2) 261 Q 18 [x_r 179, x_n, x_n, x_n, x_n, x_i ((i : Int) + 1)] [] (x_u J 200 i (J 200 i + v), L, lp, tp) := fun v hv => by
          refine ih (i + 1) _ (by omega) (x_fr_u (k := i) fJ (x_mem2 (b := 0) (lo := 0) (hi := 0) (x_mem1 ⟨by omega, by omega⟩))) ((x_u_ne _ _ (fun h => absurd h.1 (by decide))).trans j56) ((x_u_ne _ _ (fun h => absurd h.1 (by decide))).trans j58) (fun x => (x_u_ne _ _ (fun h => absurd h.1 (by decide))).trans (j199 x)) (fun x hx => ?_) (fun x hx => ?_)
          · rw [x_u_eq]
            by_cases e : x = i
            · rw [if_pos ⟨rfl, e⟩, h2 i (by omega), hv, e]
            · rw [if_neg (fun h => e h.2)]; exact h1 x (by omega)
          · rw [x_u_ne _ _ (fun h => by omega)]; exact h2 x (by omega)
        exact ⟨⟨by omega, by omega⟩, ⟨by omega, by omega⟩, fun q => by omega, fun _ => ⟨⟨by omega, by omega⟩, ⟨by omega, by omega⟩, ha, fun c => nx (-1) (by rw [if_neg (by omega)]), fun c => nx 1 (by rw [if_pos c])⟩⟩
    have hnl' : n + 1 ≤ 100000000 := hnl
    refine v_goFits ?_
    rw [h56, h57]
    refine ⟨by decide, fun h => absurd rfl h, fun _ => ⟨⟨by omega, by omega⟩, hw, fun c => ?_, fun c => ?_⟩⟩
    · exact loop (q_yR y) 0 _ (Nat.zero_add _) (x_fr_u (x_fr_refl _ _) rfl) rfl (by rw [if_neg c]; exact h58) (fun _ => rfl) (fun x hx => by omega) (fun _ _ => rfl)
    · exact loop (q_yR y) 0 _ (Nat.zero_add _) (x_fr_u (x_fr_u (x_fr_refl _ _) rfl) rfl) rfl (by rw [if_pos c]; rfl) (fun _ => rfl) (fun x hx => by omega) (fun _ _ => rfl)
  | succ m ihm =>
    intro rem k f t row n fr arr I Q hpc hrem hbit hk hy hs h199 h56 hn hnl h57 h58 h59 hf ht0 ht hq
    have hR : q_yR y ≤ 8 := by rcases hY.1.1 with q | q <;> omega
    obtain ⟨k, rfl⟩ : ∃ k', k = k' + 2 := ⟨k - 2, by omega⟩
    have hrem0 : ¬ rem = 0 := fun e => by rw [(q_pc_0 hrem).mpr e] at hpc; omega
    have loop : ∀ (j i : Nat) (n fr : Int) (J : Nat → Nat → Int), i + j = q_yR y → x_fr q_fTs I J → (∀ x, x < q_yR y → rem.testBit x = false → J 199 x = I 199 x) → J 179 56 = n → 0 ≤ n → n + ((q_cat (q_Fr y es la m rem f t row arr) j i).length : Int) ≤ 100000000 → J 179 58 = fr → (∀ I', x_fr q_fTs I I' → I' 179 56 = n + ((q_cat (q_Fr y es la m rem f t row arr) j i).length : Int) → I' 179 58 = q_keep w n fr (q_cat (q_Fr y es la m rem f t row arr) j i) → (∀ x, x < q_yR y → I' 200 x = J 200 x + (2 * q_ys a x (q_cat (q_Fr y es la m rem f t row arr) j i) - ((q_cat (q_Fr y es la m rem f t row arr) j i).length : Int))) → (∀ x, x < q_yR y → rem.testBit x = false → I' 199 x = I 199 x) → Q [] (I', L, lp, tp)) → x_S g (k + 2) 261 Q 44 [x_r 179, x_i (rem : Int), x_i f, x_i t, x_i row, x_i (i : Int)] [] (J, L, lp, tp) := by
      intro j
      induction j with
      | zero =>
        intro i n fr J hm fJ j199 j56 hn hnl j58 hq
        refine v_goFits_L44 ?_
        rw [(q_Yl_f hy fJ).1]
        refine ⟨⟨by omega, by omega⟩, ⟨by omega, by omega⟩, fun _ => hq J fJ ?_ j58 (fun x _ => ?_) j199, fun q => by omega⟩
        · rw [j56]; exact (Int.add_zero n).symm
        · show _ = J 200 x + (2 * 0 - ((0 : Nat) : Int)); omega
      | succ j ih =>
        intro i n fr J hm fJ j199 j56 hn hnl j58 hq
        have hi : i < q_yR y := by omega
        have hyJ := q_Yl_f hy fJ
        rw [q_cat] at hq hnl
        have none : ¬ (rem.testBit i = true ∧ es i ≤ t + q_ymi y f i ∧ t + q_ymi y f i ≤ la i) → ∀ J', x_fr q_fTs I J' → (∀ x, x < q_yR y → rem.testBit x = false → J' 199 x = I 199 x) → J' 179 56 = n → J' 179 58 = fr → (∀ x, J' 200 x = J 200 x) → x_S g (k + 2) 261 Q 44 [x_r 179, x_i (rem : Int), x_i f, x_i t, x_i row, x_i ((i : Int) + 1)] [] (J', L, lp, tp) := fun c J' fJ' p199 p56 p58 p200 => by
          rw [show q_Fr y es la m rem f t row arr i = [] from if_neg c, List.nil_append] at hq hnl
          exact ih (i + 1) n fr J' (by omega) fJ' p199 p56 hn hnl p58 (fun I' h1 h2 h3 h4 h5 => hq I' h1 h2 h3 (fun x hx => by rw [h4 x hx, p200 x]) h5)
        obtain ⟨-, m1, m2⟩ := q_ymi_rg hY hf hi
        obtain ⟨-, -, t4, -⟩ := q_yto_rg hY hi
        refine v_goFits_L44 ?_
        rw [hyJ.1, show ((i : Int)).toNat = i by omega, show ((rem : Int)).toNat = rem by omega, show (5 * (i : Int) + 4).toNat = 5 * i + 4 by omega, q_wo_eq rem i hrem (by omega)]
        refine ⟨⟨by omega, by omega⟩, ⟨by omega, by omega⟩, fun q => by omega, fun _ => ⟨⟨by omega, by omega⟩, ⟨by omega, by omega⟩, fun cb => ?_, fun cb => none (fun h => cb h.1) J fJ j199 j56 j58 (fun _ => rfl)⟩⟩
        refine x_le (show 2 ≤ k by omega) (m_stepsTo (k := 0) hY hyJ.2.1 hf hi ⟨_, rfl, ⟨by omega, by omega⟩, ?_⟩)
        dsimp only
        rw [x_u_same, hyJ.2.2, show t + q_yst y f i * q_ypa y = t + q_ymi y f i from rfl]
        have f1 : x_fr q_fTs I (x_u J 199 i (t + q_ymi y f i)) := x_fr_u fJ (x_mem1 ⟨by omega, by omega⟩)
        have p199 : ∀ x, x < q_yR y → rem.testBit x = false → x_u J 199 i (t + q_ymi y f i) 199 x = I 199 x := fun x hx hb => by
          rw [x_u_ne _ _ (fun h => by rw [h.2, cb] at hb; cases hb)]; exact j199 x hx hb
        refine x_le (show 1 ≤ k by omega) (m_isSeen (k := 0) (q_Sm_f hs f1) (show i < 8 by omega) ⟨by omega, by omega⟩ ⟨_, rfl, ?_⟩)
        by_cases c : es i ≤ t + q_ymi y f i ∧ t + q_ymi y f i ≤ la i
        · rw [if_pos c]
          refine ⟨by decide, fun h => absurd h (by decide), fun _ => ⟨⟨by omega, by omega⟩, ?_⟩⟩
          dsimp only
          have hqp := q_pc_wo hrem (show i < 8 by omega) cb
          rw [show q_Fr y es la m rem f t row arr i = _ from if_pos ⟨cb, c⟩] at hq hnl
          rw [List.length_append, Int.natCast_add] at hq hnl
          rw [x_u_same, show x_u J 199 i (t + q_ymi y f i) 186 (5 * i + 4) = q_yto y (5 * i + 4) from (q_Yl_f hy f1).2.1 _ (by omega)]
          refine ihm (q_wo rem i) k (i : Int) (t + q_ymi y f i + q_yto y (5 * i + 4)) (10 * row + (i : Int)) n fr (q_up arr i (t + q_ymi y f i)) _ _ (by omega) (q_wo_lt rem i hrem) (fun x hx => hbit x (q_wo_in hrem (by omega) hx).1) (by omega) (q_Yl_f hy f1) (q_Sm_f hs f1) (fun x hx hb => ?_) j56 hn (by omega) ((f1 _ _ rfl).trans h57) j58 ((f1 _ _ rfl).trans h59) (Or.inr ⟨by omega, by omega⟩) (by omega) (by omega) (fun I' f' e56 e58 e200 e199 => ⟨rfl, ?_⟩)
          · unfold q_up
            by_cases e : x = i
            · rw [if_pos e, e, x_u_same]; exact ⟨rfl, by omega, by omega⟩
            · rw [if_neg e, x_u_ne _ _ (fun h => e h.2)]
              have hxb : rem.testBit x = false := by
                cases e2 : rem.testBit x with
                | false => rfl
                | true => rw [q_wo_mk hrem (by omega) e2 e] at hb; cases hb
              rw [j199 x hx hxb]
              exact h199 x hx hxb
          · refine ih (i + 1) _ _ I' (by omega) (x_fr_trans f1 f') (fun x hx hb => ?_) e56 (by omega) (by omega) e58 (fun I'' g1 g2 g3 g4 g5 => hq I'' g1 (by rw [g2]; omega) (by rw [g3, q_keep_app]) (fun x hx => ?_) g5)
            · rw [e199 x hx (by cases e2 : (q_wo rem i).testBit x with | false => rfl | true => rw [(q_wo_in hrem (by omega) e2).1] at hb; cases hb)]
              exact p199 x hx hb
            · rw [g4 x hx, e200 x hx, q_ys_app, x_u_ne _ _ (fun h => absurd h.1 (by decide))]; omega
        · rw [if_neg c]
          exact ⟨by decide, fun _ => none (fun h => c h.2) _ f1 p199 j56 j58 (fun _ => rfl), fun h => absurd rfl h⟩
    refine v_goFits ?_
    exact ⟨⟨by omega, by omega⟩, fun _ => loop (q_yR y) 0 n fr I (Nat.zero_add _) (x_fr_refl _ _) (fun _ _ _ => rfl) h56 hn hnl h58 hq, fun c => absurd (by omega) hrem0⟩
