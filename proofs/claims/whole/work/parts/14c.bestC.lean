/-! best: class and reference -/
theorem q_Lc_lp {I : Nat → Nat → Int} {lp : Nat} {lo : Option q_F6} (h : q_Lc I lp lo) : lp < 5000 ∧ (lp = 0 ↔ lo = none) := by
  rcases h with ⟨h1, h2⟩ | ⟨n, c, F, h1, h2, -⟩
  · exact ⟨by omega, fun _ => h2, fun _ => h1⟩
  · refine ⟨by omega, fun e => by omega, fun e => ?_⟩
    rw [e] at h2; cases h2
theorem s_mostHot_L {g : x_G} {k : Nat} {Q : x_Q} {I L : Nat → Nat → Int} {lp tp : Nat} {y : q_Y} (hY : q_Yk y) (hc : q_Yc I lp y) {rem : Nat} (hrem : rem < 256) {f h c : Int} (hf : f = -1 ∨ (0 ≤ f ∧ f < (q_yR y : Int))) (hh : 0 ≤ h ∧ h ≤ 99) (hcu : 0 ≤ c ∧ c ≤ 60) : ∀ (m i : Nat) (a : Int), i + m = q_yR y → 0 ≤ a ∧ a ≤ 9 * (i : Int) → (∀ v, v = min (a + q_mh y rem f h m i) c → Q [x_i v] (I, L, lp, tp)) → x_S g (k + 4) 75 Q 4 [x_r 161, x_i (rem : Int), x_i (q_fc f), x_i h, x_i c, x_i a, x_i (i : Int)] [] (I, L, lp, tp)
  | 0, i, a, hm, ha, hq => by
    have hR : q_yR y ≤ 8 := by rcases hY.1.1 with q | q <;> omega
    refine v_mostHot_L4 ?_
    rw [hc.1.1]
    exact ⟨⟨by omega, by omega⟩, ⟨by omega, by omega⟩, fun _ => ⟨⟨by omega, by omega⟩, ⟨by omega, by omega⟩, hq _ (by rw [q_mh, Int.add_zero])⟩, fun q => by omega⟩
  | m + 1, i, a, hm, ha, hq => by
    have hR : q_yR y ≤ 8 := by rcases hY.1.1 with q | q <;> omega
    have hi : i < q_yR y := by omega
    rw [q_mh] at hq
    have wk := hY.2.2 i hi
    have e19 : I 19 i = q_ywk y i := hc.2.2.2 i hi
    obtain ⟨-, t3, -⟩ := q_yto_rg hY hi
    have e16 : I 16 ((i : Int) * 5 + 3).toNat = q_yto y (5 * i + 3) := by rw [show ((i : Int) * 5 + 3).toNat = 5 * i + 3 by omega]; exact hc.1.2.2.1 _ (by omega)
    obtain ⟨d1, d2⟩ := q_fc_dist hR hc.1 hf hi
    obtain ⟨l1, l2⟩ := q_Lc_lp hc.2.1
    obtain ⟨-, ⟨c1, c2⟩, -⟩ := hY.1.2.1 (by omega)
    have mm := q_ymi_rg hY hf hi
    have m1 : 0 ≤ q_ymi y f i * q_yru y 1 ∧ q_ymi y f i * q_yru y 1 ≤ 135 * 9 := ⟨Int.mul_nonneg mm.2.1 c1, Int.mul_le_mul mm.2.2 c2 c1 (by decide)⟩
    have em : I 17 (q_fc f * 8 + (i : Int)).toNat * I 18 3 * I 15 1 = q_ymi y f i * q_yru y 1 := by rw [d2, hc.2.2.1, hc.1.2.1 1 (by decide)]; rfl
    have stay : ¬ (rem.testBit i = true ∧ q_yto y (5 * i + 3) ≤ q_mH y f i h) → x_S g (k + 4) 75 Q 4 [x_r 161, x_i (rem : Int), x_i (q_fc f), x_i h, x_i c, x_i a, x_i ((i : Int) + 1)] [] (I, L, lp, tp) := by
      intro hn
      rw [if_neg hn] at hq
      exact s_mostHot_L hY hc hrem hf hh hcu m (i + 1) a (by omega) (by omega) (fun v hv => hq v (by omega))
    have take : (rem.testBit i = true ∧ q_yto y (5 * i + 3) ≤ q_mH y f i h) → x_S g (k + 4) 75 Q 4 [x_r 161, x_i (rem : Int), x_i (q_fc f), x_i h, x_i c, x_i (a + q_ywk y i), x_i ((i : Int) + 1)] [] (I, L, lp, tp) := by
      intro hn
      rw [if_pos hn] at hq
      exact s_mostHot_L hY hc hrem hf hh hcu m (i + 1) _ (by omega) (by omega) (fun v hv => hq v (by omega))
    refine v_mostHot_L4 ?_
    rw [hc.1.1, show ((i : Int)).toNat = i by omega, show ((rem : Int)).toNat = rem by omega, e19, e16, em]
    refine ⟨⟨by omega, by omega⟩, ⟨by omega, by omega⟩, fun q => by omega, fun q => ⟨⟨by omega, by omega⟩, ⟨by omega, by omega⟩, fun cb => ⟨l1, fun q2 => ?_, fun q2 => ?_⟩, fun cb => stay (fun h => cb h.1)⟩⟩
    · have em2 : q_mH y f i h = h := by
        unfold q_mH
        cases e : q_ylo y with
        | none => exact absurd (l2.mpr e) q2
        | some F => rfl
      rw [em2] at stay take
      exact ⟨⟨by omega, by omega⟩, ⟨by omega, by omega⟩, ⟨by omega, by omega⟩, fun q3 => stay (fun h => by have := h.2; omega), fun q3 => ⟨⟨by omega, by omega⟩, take ⟨cb, q3⟩⟩⟩
    · have em2 : q_mH y f i h = max 0 (h - q_ymi y f i * q_yru y 1) := by
        unfold q_mH
        rw [l2.mp q2]
      rw [em2] at stay take
      exact ⟨d1, ⟨by omega, by omega⟩, ⟨by omega, by omega⟩, ⟨by omega, by omega⟩, ⟨by omega, by omega⟩, fun q3 => stay (fun h => by have := h.2; omega), fun q3 => ⟨⟨by omega, by omega⟩, take ⟨cb, q3⟩⟩⟩
abbrev q_fS : List (Nat × Nat × Nat) := [(155, 0, 6), (167, 3, 4), (169, 0, 40), (170, 3, 4), (172, 0, 40), (173, 3, 4), (175, 0, 40), (176, 3, 4), (178, 0, 40), (161, 3, 5)]
theorem q_Yc_fS {I I' : Nat → Nat → Int} {lp : Nat} {y : q_Y} (hY : q_Yk y) (h : q_Yc I lp y) (hf : x_fr q_fS I I') : q_Yc I' lp y := q_Yc_ag hY h (x_fr_ag hf rfl)
def q_b2 (b : Int × Int) : Prop := -1 ≤ b.2 ∧ b.2 ≤ 60
theorem q_bs_b2 {y : q_Y} (hY : q_Yk y) : ∀ (m rem : Nat) (f h c n hot row : Int) (b : Int × Int), rem < 256 → (∀ r, rem.testBit r = true → r < q_yR y) → 0 ≤ c → 0 ≤ hot → hot + c ≤ 60 → q_b2 b → q_b2 (q_bs y m rem f h c n hot row b)
  | 0, rem, f, h, c, n, hot, row, b, hrem, hbit, hc, h0, h6, hb => by
    rw [q_bs]
    unfold q_b2 at hb ⊢
    split
    · dsimp only; omega
    · exact hb
  | m + 1, rem, f, h, c, n, hot, row, b, hrem, hbit, hc, h0, h6, hb => by
    have hR : q_yR y ≤ 8 := by rcases hY.1.1 with q | q <;> omega
    rw [q_bs]
    refine q_fd_inv q_b2 _ _ _ hb (fun r b h1 h2 hb => ?_)
    by_cases e : rem.testBit r = true
    · rw [if_pos e]
      have wk := hY.2.2 r (hbit r e)
      refine q_bs_b2 hY m _ _ _ _ _ _ _ b (q_wo_lt rem r hrem) (fun x hx => ?_) (by unfold q_po; omega) ?_ ?_ hb
      · rw [q_wo_bit rem r x hrem (by omega)] at hx
        exact hbit x (by simp at hx; exact hx.1)
      · unfold q_ho q_po; split <;> omega
      · unfold q_ho q_po; split <;> omega
    · rw [if_neg e]; exact hb
theorem s_tryHot {g : x_G} {L : Nat → Nat → Int} {lp tp : Nat} {y : q_Y} (hY : q_Yk y) {RL : Int} (hRL : RL ≤ 8) : ∀ (m rem k : Nat) (f h c n hot row : Int) (b : Int × Int) (I : Nat → Nat → Int) (Q : x_Q), q_pc rem = m → rem < 256 → (∀ r, rem.testBit r = true → r < q_yR y) → 3 * m + 9 ≤ k → q_Yc I lp y → I 161 2 = RL → RL = n + (m : Int) → 0 ≤ n → I 161 3 = b.1 → I 161 4 = b.2 → q_b2 b → (f = -1 ∨ (0 ≤ f ∧ f < (q_yR y : Int))) → 0 ≤ h ∧ h ≤ 99 → 0 ≤ c → 0 ≤ hot → hot + c ≤ 60 → (∀ I', x_fr q_fS I I' → I' 161 3 = (q_bs y m rem f h c n hot row b).1 → I' 161 4 = (q_bs y m rem f h c n hot row b).2 → Q [] (I', L, lp, tp)) → x_X g k 74 [x_r 161, x_i (rem : Int), x_i (q_fc f), x_i h, x_i c, x_i hot, x_i row] (I, L, lp, tp) Q := by
  intro m
  induction m with
  | zero =>
    intro rem k f h c n hot row b I Q hpc hrem hbit hk hc h2 hrl hn h3 h4 hb hf hh hcu h0 h6 hq
    have hR : q_yR y ≤ 8 := by rcases hY.1.1 with q | q <;> omega
    obtain ⟨k, rfl⟩ : ∃ k', k = k' + 3 := ⟨k - 3, by omega⟩
    have hr0 : rem = 0 := (q_pc_0 hrem).mp hpc
    have mr := q_mh_rg hY rem f h (q_yR y) 0 (by omega)
    have mz : q_mh y rem f h (q_yR y) 0 = 0 := by
      have : ∀ m i, q_mh y rem f h m i = 0 := by
        intro m
        induction m with
        | zero => intro i; rfl
        | succ m ih => intro i; rw [q_mh, ih, if_neg (by rw [hr0]; simp)]; rfl
      exact this _ _
    rw [q_bs] at hq
    unfold q_b2 at hb
    refine v_tryHot (x_le (show 4 ≤ k by omega) (v_mostHot (k := 0) (s_mostHot_L hY hc hrem hf hh ⟨hcu, by omega⟩ (q_yR y) 0 0 (Nat.zero_add _) (by omega) (fun v hv => ⟨_, rfl, ?_⟩))))
    rw [Int.zero_add, mz] at hv
    dsimp only
    rw [h4, hv]
    refine ⟨⟨by omega, by omega⟩, ⟨by omega, by omega⟩, fun q => ⟨⟨by omega, by omega⟩, fun q2 => absurd (by rw [hr0]; rfl) q2, fun q2 => ?_⟩, fun q => ?_⟩
    · rw [if_pos (by omega)] at hq
      exact hq _ (x_fr_u (x_fr_u (x_fr_refl _ _) rfl) rfl) rfl rfl
    · rw [if_neg (by omega)] at hq
      exact hq I (x_fr_refl _ _) h3 h4
  | succ m ih =>
    intro rem k f h c n hot row b I Q hpc hrem hbit hk hc h2 hrl hn h3 h4 hb hf hh hcu h0 h6 hq
    have hR : q_yR y ≤ 8 := by rcases hY.1.1 with q | q <;> omega
    obtain ⟨k, rfl⟩ : ∃ k', k = k' + 3 := ⟨k - 3, by omega⟩
    have mr := q_mh_rg hY rem f h (q_yR y) 0 (by omega)
    have hrem0 : ¬ rem = 0 := fun e => by rw [(q_pc_0 hrem).mpr e] at hpc; omega
    have hb' := hb
    unfold q_b2 at hb'
    have prune := q_bs_prune hY (m + 1) rem f h c n hot row b hrem hbit hf hh hcu
    rw [q_bs] at hq prune
    -- the loop over rooms
    have loop : ∀ (j i : Nat) (b : Int × Int) (J : Nat → Nat → Int), i + j = q_yR y → x_fr q_fS I J → J 161 3 = b.1 → J 161 4 = b.2 → q_b2 b → (∀ I', x_fr q_fS I I' → I' 161 3 = (q_fd (fun r b => if rem.testBit r = true then q_bs y m (q_wo rem r) (r : Int) (q_yht y h f r c n 0) (c - q_po y c r) (n + 1) (hot + q_ho y h f r c n) (10 * row + (r : Int)) b else b) j i b).1 → I' 161 4 = (q_fd (fun r b => if rem.testBit r = true then q_bs y m (q_wo rem r) (r : Int) (q_yht y h f r c n 0) (c - q_po y c r) (n + 1) (hot + q_ho y h f r c n) (10 * row + (r : Int)) b else b) j i b).2 → Q [] (I', L, lp, tp)) → x_S g (k + 3) 74 Q 29 [x_r 161, x_i (rem : Int), x_i (q_fc f), x_i h, x_i c, x_i hot, x_i row, x_i n, x_i (i : Int), x_n, x_n, x_n] [] (J, L, lp, tp) := by
      intro j
      induction j with
      | zero =>
        intro i b J hm fJ j3 j4 hb hq
        have hcJ := q_Yc_fS hY hc fJ
        refine v_tryHot_L29 ?_
        rw [hcJ.1.1]
        exact ⟨⟨by omega, by omega⟩, ⟨by omega, by omega⟩, fun _ => hq J fJ j3 j4, fun q => by omega⟩
      | succ j ihj =>
        intro i b J hm fJ j3 j4 hb hq
        have hcJ := q_Yc_fS hY hc fJ
        rw [q_fd] at hq
        refine v_tryHot_L29 ?_
        rw [hcJ.1.1, show ((i : Int)).toNat = i by omega, show ((rem : Int)).toNat = rem by omega, q_wo_eq rem i hrem (by omega)]
        refine ⟨⟨by omega, by omega⟩, ⟨by omega, by omega⟩, fun q => by omega, fun q => ⟨⟨by omega, by omega⟩, ⟨by omega, by omega⟩, fun cb => ?_, fun cb => ?_⟩⟩
        · have hi := hbit i cb
          have wk := hY.2.2 i hi
          obtain ⟨-, t3, -⟩ := q_yto_rg hY hi
          have hht : 0 ≤ q_yht y h f i c n 0 ∧ q_yht y h f i c n 0 ≤ h := q_ht_rg hh
          have hpo : 0 ≤ q_po y c i ∧ q_po y c i ≤ c := by unfold q_po; omega
          rw [if_pos cb] at hq
          refine x_le (show 6 ≤ k by omega) (s_heat (k := 0) hY hcJ hf hi hh ⟨hcu, by omega⟩ ⟨hn, by omega⟩ ⟨by decide, by decide⟩ (fun I4 f4 => ⟨_, rfl, ?_⟩))
          have f4' : x_fr q_fS J I4 := x_fr_mono f4 rfl
          have hc4 := q_Yc_fS hY hcJ f4'
          have e19 : I4 19 i = q_ywk y i := hc4.2.2.2 i hi
          have e16 : I4 16 ((i : Int) * 5 + 3).toNat = q_yto y (5 * i + 3) := by rw [show ((i : Int) * 5 + 3).toNat = 5 * i + 3 by omega]; exact hc4.1.2.2.1 _ (by omega)
          dsimp only
          rw [e19, e16]
          have epo : min c (q_ywk y i) = q_po y c i := rfl
          rw [epo]
          have efc : (i : Int) = q_fc (i : Int) := (if_neg (by omega)).symm
          have hqp := q_pc_wo hrem (show i < 8 by omega) cb
          have bits : ∀ x, (q_wo rem i).testBit x = true → x < q_yR y := fun x hx => by
            rw [q_wo_bit rem i x hrem (by omega)] at hx
            exact hbit x (by simp at hx; exact hx.1)
          have rcl : ∀ ho : Int, ho = hot + q_ho y h f i c n → 0 ≤ ho → ho + (c - q_po y c i) ≤ 60 → x_X g k 74 [x_r 161, x_i ((q_wo rem i : Nat) : Int), x_i (i : Int), x_i (q_yht y h f i c n 0), x_i (c - q_po y c i), x_i ho, x_i (10 * row + (i : Int))] (I4, L, lp, tp) (fun rv w8 => rv = [] ∧ x_S g (k + 3) 74 Q 29 [x_r 161, x_i (rem : Int), x_i (q_fc f), x_i h, x_i c, x_i hot, x_i row, x_i n, x_i ((i : Int) + 1), x_n, x_n, x_n] [] w8) := by
            intro ho eho e0 e6
            subst eho
            have := ih (q_wo rem i) k (i : Int) (q_yht y h f i c n 0) (c - q_po y c i) (n + 1) (hot + q_ho y h f i c n) (10 * row + (i : Int)) b I4 (fun rv w8 => rv = [] ∧ x_S g (k + 3) 74 Q 29 [x_r 161, x_i (rem : Int), x_i (q_fc f), x_i h, x_i c, x_i hot, x_i row, x_i n, x_i ((i : Int) + 1), x_n, x_n, x_n] [] w8) (by omega) (q_wo_lt rem i hrem) bits (by omega) hc4 ((f4' _ _ rfl).trans ((fJ _ _ rfl).trans h2)) (by omega) (by omega) ((f4 _ _ rfl).trans j3) ((f4 _ _ rfl).trans j4) hb (Or.inr ⟨by omega, by omega⟩) ⟨by omega, by omega⟩ (by omega) e0 e6 (fun I' f' e3 e4 => ⟨rfl, ihj (i + 1) _ I' (by omega) (x_fr_trans (x_fr_trans fJ f4') f') e3 e4 (q_bs_b2 hY m _ _ _ _ _ _ _ b (q_wo_lt rem i hrem) bits (by omega) e0 e6 hb) hq⟩)
            rw [← efc] at this
            exact this
          unfold q_ho at rcl
          refine ⟨⟨by omega, by omega⟩, ⟨by omega, by omega⟩, ⟨by omega, by omega⟩, ⟨by omega, by omega⟩, ⟨by omega, by omega⟩, ⟨by omega, by omega⟩, fun q2 => ?_, fun q2 => ?_⟩
          · exact rcl _ (by rw [if_neg (by omega)]) (by omega) (by omega)
          · exact rcl _ (by rw [if_pos q2]) (by omega) (by omega)
        · rw [if_neg cb] at hq
          exact ihj (i + 1) b J (by omega) fJ j3 j4 hb hq
    refine v_tryHot (x_le (show 4 ≤ k by omega) (v_mostHot (k := 0) (s_mostHot_L hY hc hrem hf hh ⟨hcu, by omega⟩ (q_yR y) 0 0 (Nat.zero_add _) (by omega) (fun v hv => ⟨_, rfl, ?_⟩))))
    rw [Int.zero_add] at hv
    dsimp only
    rw [h4, h2]
    refine ⟨⟨by omega, by omega⟩, ⟨by omega, by omega⟩, fun q => ⟨⟨by omega, by omega⟩, fun q2 => ?_, fun q2 => absurd (by omega) hrem0⟩, fun q => ?_⟩
    · refine x_le (show 1 ≤ k by omega) (s_bitCount (k := 0) hrem ⟨_, rfl, ?_⟩)
      rw [hpc, show RL - ((m + 1 : Nat) : Int) = n by omega]
      exact loop (q_yR y) 0 b I (Nat.zero_add _) (x_fr_refl _ _) h3 h4 hb hq
    · rw [prune (by omega)] at hq
      exact hq I (x_fr_refl _ _) h3 h4
def q_best (z : q_Z) : Int × Int := q_bs (q_zy z) (q_yR (q_zy z)) (2 ^ q_yR (q_zy z) - 1) (-1) (q_zh z) (q_zc z) 0 0 0 (-1, -1)
abbrev q_fB : List (Nat × Nat × Nat) := [(155, 0, 6), (167, 3, 4), (169, 0, 40), (170, 3, 4), (172, 0, 40), (173, 3, 4), (175, 0, 40), (176, 3, 4), (178, 0, 40), (161, 1, 7)]
/-- what is known of the best row holds -/
def q_Bk (I : Nat → Nat → Int) (z : q_Z) : Prop := I 161 1 = 0 ∨ (I 161 1 = 1 ∧ I 161 3 = (q_best z).1 ∧ I 161 4 = (q_best z).2)
theorem c_best {g : x_G} {k : Nat} {Q : x_Q} {I L : Nat → Nat → Int} {lp tp : Nat} {z : q_Z} (hZ : q_Zk z) (hc : q_ZC I lp z) (hB : q_Bk I z) {w : Int} (hw : x_rg w) (hq : ∀ I', x_fr q_fB I I' → q_Bk I' z → Q [x_i (if ¬ q_yR (q_zy z) = 0 ∧ q_bit w then (if w = 0 then (q_best z).1 else (q_best z).2) else -1)] (I', L, lp, tp)) : x_X g (k + 50) 162 [x_r 1, x_i w] (I, L, lp, tp) Q := by
  have hR := q_ZR hZ
  have hp := q_pow8 hR
  have no : ¬ (¬ q_yR (q_zy z) = 0 ∧ q_bit w) → Q [x_i (-1)] (I, L, lp, tp) := fun h => by have := hq I (x_fr_refl _ _) hB; rw [if_neg h] at this; exact this
  have fb : ∀ Q' : x_Q, (∀ I', x_fr q_fB I I' → q_Bk I' z → I' 161 3 = (q_best z).1 → I' 161 4 = (q_best z).2 → Q' [] (I', L, lp, tp)) → x_X g (k + 48) 73 [x_r 161] (I, L, lp, tp) Q' := by
    intro Q' hq'
    refine v_findBest (k := k + 46) ?_
    rcases hB with e | ⟨e, e3, e4⟩
    · rw [e, q_ZC_R hc, hc.2.2.2.1, hc.2.2.2.2, q_every _ (by omega)]
      refine ⟨by decide, fun _ => ?_, fun h => absurd rfl h⟩
      have f0 : x_fr q_fB I (x_u (x_u (x_u I 161 3 (-1)) 161 4 (-1)) 161 2 (q_yR (q_zy z) : Int)) := x_fr_u (x_fr_u (x_fr_u (x_fr_refl _ _) rfl) rfl) rfl
      have hc0 : q_Yc (x_u (x_u (x_u I 161 3 (-1)) 161 4 (-1)) 161 2 (q_yR (q_zy z) : Int)) lp (q_zy z) := q_Yc_ag hZ.1 hc.1 (x_fr_ag f0 rfl)
      refine s_tryHot hZ.1 (RL := (q_yR (q_zy z) : Int)) (by omega) (q_yR (q_zy z)) (2 ^ q_yR (q_zy z) - 1) (k + 46) (-1) (q_zh z) (q_zc z) 0 0 0 (-1, -1) _ _ (q_pc_every hR) (by omega) (fun r hr => ?_) (by omega) hc0 rfl (by omega) (by decide) rfl rfl ⟨by decide, by decide⟩ (Or.inl rfl) hZ.2.2.1 hZ.2.2.2.1.1 (by decide) (by have := hZ.2.2.2.1.2; omega) (fun I' f' e3 e4 => ⟨rfl, ?_⟩)
      · rw [q_every_bit] at hr; simpa using hr
      · have f1 : x_fr q_fB I (x_u I' 161 1 1) := x_fr_u (x_fr_trans f0 (x_fr_mono f' rfl)) rfl
        exact hq' _ f1 (Or.inr ⟨rfl, e3, e4⟩) e3 e4
    · rw [e]
      exact ⟨by decide, fun h => absurd h (by decide), fun _ => hq' I (x_fr_refl _ _) (Or.inr ⟨e, e3, e4⟩) e3 e4⟩
  refine v_best (k := k + 48) ?_
  rw [q_ZC_R hc]
  refine ⟨⟨by omega, by omega⟩, fun q => ⟨hw, fun c => fb _ (fun I' f' b' e3 e4 => ⟨rfl, ?_⟩), fun c => ⟨fun c2 => no (fun h => by have := h.2; unfold q_bit at this; omega), fun c2 => fb _ (fun I' f' b' e3 e4 => ⟨rfl, ?_⟩)⟩⟩, fun q => no (by omega)⟩
  · have := hq I' f' b'
    rw [if_pos ⟨by omega, Or.inl c⟩, if_pos c, ← e3] at this
    exact this
  · have := hq I' f' b'
    rw [if_pos ⟨by omega, Or.inr c2⟩, if_neg (by omega), ← e4] at this
    exact this
