/-! shortest, by the class -/
theorem s_allHot {g : x_G} {k : Nat} {Q : x_Q} {I L : Nat → Nat → Int} {lp tp : Nat} {y : q_Y} (hY : q_Yk y) (hc : q_Yc I lp y) {r : Nat} (hr : r < q_yR y) {h c : Int} (hh : 0 ≤ h ∧ h ≤ 99) (hcu : 0 ≤ c ∧ c ≤ 60) (hq : Q [x_i (if q_ah y r h c then 1 else 0)] (I, L, lp, tp)) : x_X g (k + 3) 79 [x_r 161, x_i (r : Int), x_i h, x_i c] (I, L, lp, tp) Q := by
  obtain ⟨-, t3, -, wk, r8⟩ := q_yto_rg hY hr
  have hR : q_yR y ≤ 8 := by rcases hY.1.1 with q | q <;> omega
  have e19 : I 19 r = q_ywk y r := hc.2.2.2 r hr
  have e16 : I 16 ((r : Int) * 5 + 3).toNat = q_yto y (5 * r + 3) := by rw [show ((r : Int) * 5 + 3).toNat = 5 * r + 3 by omega]; exact hc.1.2.2.1 _ (by omega)
  refine v_allHot ?_
  rw [show ((r : Int)).toNat = r by omega, e19, e16]
  refine ⟨⟨by omega, by omega⟩, ⟨by omega, by omega⟩, fun q => ?_, fun q => ⟨⟨by omega, by omega⟩, fun q2 => ?_, fun q2 => ⟨⟨by omega, by omega⟩, ⟨by omega, by omega⟩, ⟨by omega, by omega⟩, fun q3 => ?_, fun q3 => ?_⟩⟩⟩
  · rw [if_pos (by omega)] at hq; exact hq
  · rw [if_neg (by omega)] at hq; exact hq
  · rw [if_neg (by omega)] at hq; exact hq
  · rw [if_pos (by omega)] at hq; exact hq
theorem q_mH_rg {y : q_Y} (hY : q_Yk y) {f h : Int} (hf : f = -1 ∨ (0 ≤ f ∧ f < (q_yR y : Int))) (hh : 0 ≤ h ∧ h ≤ 99) {r : Nat} (hr : r < q_yR y) : 0 ≤ q_mH y f r h ∧ q_mH y f r h ≤ 99 := by
  obtain ⟨-, ⟨c1, c2⟩, -⟩ := hY.1.2.1 (by omega)
  have m1 : 0 ≤ q_ymi y f r * q_yru y 1 := Int.mul_nonneg (q_ymi_rg hY hf hr).2.1 c1
  unfold q_mH
  cases e : q_ylo y with
  | none => dsimp only; omega
  | some F => exact hh
theorem s_hopeless_L {g : x_G} {k : Nat} {Q : x_Q} {I L : Nat → Nat → Int} {lp tp : Nat} {y : q_Y} (hY : q_Yk y) (hc : q_Yc I lp y) {rem : Nat} (hrem : rem < 256) {f t h c b2 : Int} (h6 : I 161 6 = b2) (hb2 : 0 ≤ b2 ∧ b2 ≤ 1000000) (hf : f = -1 ∨ (0 ≤ f ∧ f < (q_yR y : Int))) (ht : 0 ≤ t ∧ t ≤ 1200) (hh : 0 ≤ h ∧ h ≤ 99) (hcu : 0 ≤ c ∧ c ≤ 60) (q1 : ∀ x, rem.testBit x = true → (b2 ≤ t + q_ymi y f x ∨ ¬ q_ah y x (q_mH y f x h) c) → Q [x_i 1] (I, L, lp, tp)) (q0 : Q [x_i 0] (I, L, lp, tp)) : ∀ (m i : Nat), i + m = q_yR y → x_S g (k + 7) 78 Q 2 [x_r 161, x_i (rem : Int), x_i (q_fc f), x_i t, x_i h, x_i c, x_i (i : Int)] [] (I, L, lp, tp)
  | 0, i, hm => by
    have hR : q_yR y ≤ 8 := by rcases hY.1.1 with q | q <;> omega
    refine v_hopeless_L2 (k := k + 3) ?_
    rw [hc.1.1]
    exact ⟨⟨by omega, by omega⟩, ⟨by omega, by omega⟩, fun _ => q0, fun q => by omega⟩
  | m + 1, i, hm => by
    have hR : q_yR y ≤ 8 := by rcases hY.1.1 with q | q <;> omega
    have hi : i < q_yR y := by omega
    have nx := s_hopeless_L (g := g) (k := k) hY hc hrem h6 hb2 hf ht hh hcu q1 q0 m (i + 1) (by omega)
    obtain ⟨d1, d2⟩ := q_fc_dist hR hc.1 hf hi
    obtain ⟨l1, l2⟩ := q_Lc_lp hc.2.1
    obtain ⟨-, ⟨c1, c2⟩, -⟩ := hY.1.2.1 (by omega)
    have mm := q_ymi_rg hY hf hi
    have m1 : 0 ≤ q_ymi y f i * q_yru y 1 ∧ q_ymi y f i * q_yru y 1 ≤ 135 * 9 := ⟨Int.mul_nonneg mm.2.1 c1, Int.mul_le_mul mm.2.2 c2 c1 (by decide)⟩
    have em0 : I 17 (q_fc f * 8 + (i : Int)).toNat * I 18 3 = q_ymi y f i := by rw [d2, hc.2.2.1]; rfl
    have mr := q_mH_rg hY hf hh hi
    have fin : rem.testBit i = true → ∀ v : Int, v = (if q_ah y i (q_mH y f i h) c then 1 else 0) → ∃ z5, [x_i v] = [x_i z5] ∧ (x_rg z5) ∧ ((¬ z5 = 0 → x_S g (k + 3 + 4) 78 Q 2 [x_r 161, x_i (rem : Int), x_i (q_fc f), x_i t, x_i h, x_i c, x_i ((i : Int) + 1)] [] (I, L, lp, tp)) ∧ (z5 = 0 → Q [x_i 1] (I, L, lp, tp))) := by
      intro cb v hv
      by_cases e : q_ah y i (q_mH y f i h) c
      · rw [if_pos e] at hv; subst hv
        exact ⟨1, rfl, by decide, fun _ => nx, fun h => absurd h (by decide)⟩
      · rw [if_neg e] at hv; subst hv
        exact ⟨0, rfl, by decide, fun h => absurd rfl h, fun _ => q1 i cb (Or.inr e)⟩
    refine v_hopeless_L2 (k := k + 3) ?_
    rw [hc.1.1, show ((i : Int)).toNat = i by omega, show ((rem : Int)).toNat = rem by omega, em0, h6, hc.1.2.1 1 (by decide)]
    refine ⟨⟨by omega, by omega⟩, ⟨by omega, by omega⟩, fun q => by omega, fun q => ⟨⟨by omega, by omega⟩, ⟨by omega, by omega⟩, fun cb => ⟨d1, ⟨by omega, by omega⟩, ⟨by omega, by omega⟩, fun q2 => q1 i cb (Or.inl q2), fun q2 => ⟨l1, fun q3 => ?_, fun q3 => ⟨⟨by omega, by omega⟩, ?_⟩⟩⟩, fun _ => nx⟩⟩
    · have em2 : q_mH y f i h = h := by
        unfold q_mH
        cases e : q_ylo y with
        | none => exact absurd (l2.mpr e) q3
        | some F => rfl
      exact x_le (show 3 ≤ k + 3 by omega) (s_allHot (k := 0) hY hc hi hh hcu (fin cb _ (by rw [em2])))
    · have em2 : q_mH y f i h = max 0 (h - q_ymi y f i * q_yru y 1) := by
        unfold q_mH
        rw [l2.mp q3]
      rw [em2] at fin mr
      exact x_le (show 3 ≤ k + 3 by omega) (s_allHot (k := 0) hY hc hi mr hcu (fin cb _ rfl))
abbrev q_fU : List (Nat × Nat × Nat) := [(155, 0, 6), (167, 3, 4), (169, 0, 40), (170, 3, 4), (172, 0, 40), (173, 3, 4), (175, 0, 40), (176, 3, 4), (178, 0, 40), (161, 5, 7)]
theorem q_Yc_fU {I I' : Nat → Nat → Int} {lp : Nat} {y : q_Y} (hY : q_Yk y) (h : q_Yc I lp y) (hf : x_fr q_fU I I') : q_Yc I' lp y := q_Yc_ag hY h (x_fr_ag hf rfl)
theorem s_tryShort {g : x_G} {L : Nat → Nat → Int} {lp tp : Nat} {y : q_Y} (hY : q_Yk y) {RL : Int} (hRL : RL ≤ 8) : ∀ (m rem k : Nat) (f t h c n row : Int) (b : Int × Int) (I : Nat → Nat → Int) (Q : x_Q), q_pc rem = m + 1 → rem < 256 → (∀ r, rem.testBit r = true → r < q_yR y) → 3 * m + 13 ≤ k → q_Yc I lp y → I 161 2 = RL → RL = n + ((m + 1 : Nat) : Int) → 0 ≤ n → I 161 5 = b.1 → I 161 6 = b.2 → q_b3 b → (f = -1 ∨ (0 ≤ f ∧ f < (q_yR y : Int))) → 0 ≤ t → t ≤ 150 * n → 0 ≤ h ∧ h ≤ 99 → 0 ≤ c ∧ c ≤ 60 → q_rw row (m + 1) → (∀ I', x_fr q_fU I I' → I' 161 5 = (q_ss y (m + 1) rem f t h c n row b).1 → I' 161 6 = (q_ss y (m + 1) rem f t h c n row b).2 → Q [] (I', L, lp, tp)) → x_X g k 77 [x_r 161, x_i (rem : Int), x_i (q_fc f), x_i t, x_i h, x_i c, x_i row] (I, L, lp, tp) Q := by
  intro m
  induction m using Nat.strongRecOn with
  | ind m ih =>
    intro rem k f t h c n row b I Q hpc hrem hbit hk hc h2 hrl hn h5 h6 hb hf ht0 ht hh hcu hw hq
    have hR : q_yR y ≤ 8 := by rcases hY.1.1 with q | q <;> omega
    obtain ⟨k, rfl⟩ : ∃ k', k = k' + 3 := ⟨k - 3, by omega⟩
    have hopeless := fun x => q_ss_hopeless hY (x := x) (m + 1) rem f t h c n row b hpc hrem hbit hf hh hcu.1
    rw [q_ss] at hq
    have hb6 : ∀ b : Int × Int, q_b3 b → 0 ≤ b.2 ∧ b.2 ≤ 1000000 := fun b hb => by unfold q_b3 at hb; omega
    -- the loop over rooms
    have loop : ∀ (j i : Nat) (b : Int × Int) (J : Nat → Nat → Int), i + j = q_yR y → x_fr q_fU I J → J 161 5 = b.1 → J 161 6 = b.2 → q_b3 b → (∀ I', x_fr q_fU I I' → I' 161 5 = (q_fd (fun r b => if rem.testBit r = true ∧ q_ah y r (q_yht y h f r c n 0) c then (if m = 0 then (if t + q_ymi y f r < b.2 then (10 * row + (r : Int), t + q_ymi y f r) else b) else q_ss y m (q_wo rem r) (r : Int) (t + q_ymi y f r + q_yto y (5 * r + 4)) (q_yht y h f r c n 0) (c - q_ywk y r) (n + 1) (10 * row + (r : Int)) b) else b) j i b).1 → I' 161 6 = (q_fd (fun r b => if rem.testBit r = true ∧ q_ah y r (q_yht y h f r c n 0) c then (if m = 0 then (if t + q_ymi y f r < b.2 then (10 * row + (r : Int), t + q_ymi y f r) else b) else q_ss y m (q_wo rem r) (r : Int) (t + q_ymi y f r + q_yto y (5 * r + 4)) (q_yht y h f r c n 0) (c - q_ywk y r) (n + 1) (10 * row + (r : Int)) b) else b) j i b).2 → Q [] (I', L, lp, tp)) → x_S g (k + 3) 77 Q 17 [x_r 161, x_i (rem : Int), x_i (q_fc f), x_i t, x_i h, x_i c, x_i row, x_i n, x_i (i : Int), x_n, x_n, x_n, x_n] [] (J, L, lp, tp) := by
      intro j
      induction j with
      | zero =>
        intro i b J hm fJ j5 j6 hb hq
        have hcJ := q_Yc_fU hY hc fJ
        refine v_tryShort_L17 ?_
        rw [hcJ.1.1]
        exact ⟨⟨by omega, by omega⟩, ⟨by omega, by omega⟩, fun _ => hq J fJ j5 j6, fun q => by omega⟩
      | succ j ihj =>
        intro i b J hm fJ j5 j6 hb hq
        have hcJ := q_Yc_fU hY hc fJ
        rw [q_fd] at hq
        have b6 := hb6 b hb
        have stay : ∀ J', x_fr q_fU I J' → J' 161 5 = b.1 → J' 161 6 = b.2 → (if rem.testBit i = true ∧ q_ah y i (q_yht y h f i c n 0) c then (if m = 0 then (if t + q_ymi y f i < b.2 then (10 * row + (i : Int), t + q_ymi y f i) else b) else q_ss y m (q_wo rem i) (i : Int) (t + q_ymi y f i + q_yto y (5 * i + 4)) (q_yht y h f i c n 0) (c - q_ywk y i) (n + 1) (10 * row + (i : Int)) b) else b) = b → x_S g (k + 3) 77 Q 17 [x_r 161, x_i (rem : Int), x_i (q_fc f), x_i t, x_i h, x_i c, x_i row, x_i n, x_i ((i : Int) + 1), x_n, x_n, x_n, x_n] [] (J', L, lp, tp) := by
          intro J' f' e5 e6 he
          rw [he] at hq
          exact ihj (i + 1) b J' (by omega) f' e5 e6 hb hq
        refine v_tryShort_L17 ?_
        have hi : i < q_yR y := by omega
        obtain ⟨d1, d2⟩ := q_fc_dist hR hcJ.1 hf hi
        have em0 : J 17 (q_fc f * 8 + (i : Int)).toNat * J 18 3 = q_ymi y f i := by rw [d2, hcJ.2.2.1]; rfl
        obtain ⟨-, m1, m2⟩ := q_ymi_rg hY hf hi
        rw [hcJ.1.1, show ((i : Int)).toNat = i by omega, show ((rem : Int)).toNat = rem by omega, q_wo_eq rem i hrem (by omega), em0]
        refine ⟨⟨by omega, by omega⟩, ⟨by omega, by omega⟩, fun q => by omega, fun q => ⟨⟨by omega, by omega⟩, ⟨by omega, by omega⟩, fun cb => ⟨d1, ?_⟩, fun cb => stay J fJ j5 j6 (by rw [if_neg (fun h => cb h.1)])⟩⟩
        obtain ⟨-, t3, t4, wk, -⟩ := q_yto_rg hY hi
        have hht : 0 ≤ q_yht y h f i c n 0 ∧ q_yht y h f i c n 0 ≤ h := q_ht_rg hh
        refine x_le (show 6 ≤ k by omega) (s_heat (k := 0) hY hcJ hf hi hh hcu ⟨hn, by omega⟩ ⟨by decide, by decide⟩ (fun I4 f4 => ⟨_, rfl, ?_⟩))
        have f4' : x_fr q_fU J I4 := x_fr_mono f4 rfl
        have hc4 := q_Yc_fU hY hcJ f4'
        have fI4 := x_fr_trans fJ f4'
        have i5 : I4 161 5 = b.1 := (f4 _ _ rfl).trans j5
        have i6 : I4 161 6 = b.2 := (f4 _ _ rfl).trans j6
        have e19 : I4 19 i = q_ywk y i := hc4.2.2.2 i hi
        have e16 : I4 16 ((i : Int) * 5 + 4).toNat = q_yto y (5 * i + 4) := by rw [show ((i : Int) * 5 + 4).toNat = 5 * i + 4 by omega]; exact hc4.1.2.2.1 _ (by omega)
        refine x_le (show 3 ≤ k by omega) (s_allHot (k := 0) hY hc4 hi ⟨by omega, by omega⟩ hcu ⟨_, rfl, ?_⟩)
        dsimp only
        have hqp := q_pc_wo hrem (show i < 8 by omega) cb
        have hwl := q_wo_lt rem i hrem
        have bits : ∀ x, (q_wo rem i).testBit x = true → x < q_yR y := fun x hx => by
          rw [q_wo_bit rem i x hrem (by omega)] at hx
          exact hbit x (by simp at hx; exact hx.1)
        have hw' := q_rw_step hw (show i < 8 by omega)
        by_cases ea : q_ah y i (q_yht y h f i c n 0) c
        · rw [if_pos ea, i6, e19, e16]
          refine ⟨by decide, fun h => absurd h (by decide), fun _ => ⟨⟨by omega, by omega⟩, ⟨by omega, by omega⟩, fun q2 => ⟨⟨by omega, by omega⟩, fun q3 => ⟨⟨by omega, by omega⟩, ⟨by omega, by omega⟩, ?_⟩, fun q3 => ?_⟩, fun q2 => stay I4 fI4 i5 i6 ?_⟩⟩
          · have hm0 : ¬ m = 0 := fun e => by
              have : q_wo rem i = 0 := (q_pc_0 hwl).mp (by omega)
              omega
            obtain ⟨m', rfl⟩ : ∃ m', m = m' + 1 := ⟨m - 1, by omega⟩
            rw [if_pos ⟨cb, ea⟩, if_neg hm0] at hq
            have efc : q_fc (i : Int) = (i : Int) := if_neg (by omega)
            have := ih m' (by omega) (q_wo rem i) k (i : Int) (t + q_ymi y f i + q_yto y (5 * i + 4)) (q_yht y h f i c n 0) (c - q_ywk y i) (n + 1) (10 * row + (i : Int)) b I4 (fun rv w13 => rv = [] ∧ x_S g (k + 3) 77 Q 17 [x_r 161, x_i (rem : Int), x_i (q_fc f), x_i t, x_i h, x_i c, x_i row, x_i n, x_i ((i : Int) + 1), x_n, x_n, x_n, x_n] [] w13) (by omega) hwl bits (by omega) hc4 ((f4 _ _ rfl).trans ((fJ _ _ rfl).trans h2)) (by omega) (by omega) i5 i6 hb (Or.inr ⟨by omega, by omega⟩) (by omega) (by omega) ⟨by omega, by omega⟩ ⟨by unfold q_ah at ea; omega, by omega⟩ hw' (fun I' f' e5 e6 => ⟨rfl, ihj (i + 1) _ I' (by omega) (x_fr_trans fI4 f') e5 e6 (q_ss_b3 hY _ _ _ _ _ _ _ _ b hwl bits (Or.inr ⟨by omega, by omega⟩) (by omega) (by omega) (by omega) hw' hb) hq⟩)
            rw [efc] at this
            exact this
          · have hm0 : m = 0 := by
              have := (q_pc_0 hwl).mpr (by omega)
              omega
            rw [if_pos ⟨cb, ea⟩, if_pos hm0, if_pos q2] at hq
            have hr2 := q_rw_le hw'
            refine ihj (i + 1) _ _ (by omega) (x_fr_u (x_fr_u fI4 rfl) rfl) rfl rfl (Or.inr ⟨hr2, by dsimp only; omega, by dsimp only; omega⟩) hq
          · rw [if_pos ⟨cb, ea⟩]
            by_cases hm0 : m = 0
            · rw [if_pos hm0, if_neg (by omega)]
            · rw [if_neg hm0]
              exact q_ss_late hY m _ _ _ _ _ _ _ b hwl bits (Or.inr ⟨by omega, by omega⟩) (by omega)
        · rw [if_neg ea]
          exact ⟨by decide, fun _ => stay I4 fI4 i5 i6 (by rw [if_neg (fun h => ea h.2)]), fun h => absurd rfl h⟩
    have b6 := hb6 b hb
    refine v_tryShort (x_le (show 7 ≤ k by omega) (v_hopeless (k := 3) (s_hopeless_L (k := 0) hY hc hrem h6 b6 hf ⟨ht0, by omega⟩ hh hcu (fun x hx hl => ⟨1, rfl, by decide, fun h => absurd h (by decide), fun _ => ?_⟩) ⟨0, rfl, by decide, fun _ => ?_, fun h => absurd rfl h⟩ (q_yR y) 0 (Nat.zero_add _))))
    · have := hopeless x hx hl
      rw [q_ss] at this
      rw [this] at hq
      exact hq I (x_fr_refl _ _) h5 h6
    · refine x_le (show 1 ≤ k by omega) (s_bitCount (k := 0) hrem ⟨_, rfl, ?_⟩)
      dsimp only
      rw [h2, hpc, show RL - ((m + 1 : Nat) : Int) = n by omega]
      exact loop (q_yR y) 0 b I (Nat.zero_add _) (x_fr_refl _ _) h5 h6 hb hq
/-- the answer of shortest for a set -/
def q_sh2 (z : q_Z) (set : Nat) : Int × Int := q_ss (q_zy z) (q_pc set) set (-1) 0 (q_zh z) (q_zc z) 0 0 (-1, 1000000)
def q_aShort (z : q_Z) (s w : Int) : Int := if (1 ≤ s ∧ s < ((2 ^ q_yR (q_zy z) : Nat) : Int)) ∧ q_bit w then (if w = 0 then (q_sh2 z s.toNat).1 else (if (q_sh2 z s.toNat).1 = -1 then -1 else (q_sh2 z s.toNat).2)) else -1
theorem q_set_ok {R n : Nat} (hR : R ≤ 8) (hn : n < 2 ^ R) : n < 256 ∧ ∀ r, n.testBit r = true → r < R := by
  have hp := q_pow8 hR
  refine ⟨by omega, fun r hr => ?_⟩
  rcases Nat.lt_or_ge r R with q | q
  · exact q
  · have : 2 ^ R ≤ 2 ^ r := Nat.pow_le_pow_right (by decide) q
    rw [Nat.testBit_lt_two_pow (by omega)] at hr; cases hr
theorem q_rw8 (m : Nat) (hm : m ≤ 8) : q_rw 0 m := by
  have : 10 ^ m ≤ 10 ^ 8 := Nat.pow_le_pow_right (by decide) hm
  refine ⟨Int.le_refl _, ?_⟩
  show (0 + 1) * _ ≤ _
  omega
abbrev q_fU2 : List (Nat × Nat × Nat) := [(155, 0, 6), (167, 3, 4), (169, 0, 40), (170, 3, 4), (172, 0, 40), (173, 3, 4), (175, 0, 40), (176, 3, 4), (178, 0, 40), (161, 5, 7), (161, 2, 3)]
theorem c_shortest {g : x_G} {k : Nat} {Q : x_Q} {I L : Nat → Nat → Int} {lp tp : Nat} {z : q_Z} (hZ : q_Zk z) (hc : q_ZC I lp z) {s w : Int} (hs : x_rg s) (hw : x_rg w) (hq : ∀ I', x_fr q_fU2 I I' → Q [x_i (q_aShort z s w)] (I', L, lp, tp)) : x_X g (k + 60) 163 [x_r 1, x_i s, x_i w] (I, L, lp, tp) Q := by
  have hR := q_ZR hZ
  have hp := q_pow8 hR
  have out : ∀ I' v, x_fr q_fU2 I I' → v = q_aShort z s w → Q [x_i v] (I', L, lp, tp) := fun I' v f e => by rw [e]; exact hq I' f
  unfold q_aShort at out
  have no : ¬ ((1 ≤ s ∧ s < ((2 ^ q_yR (q_zy z) : Nat) : Int)) ∧ q_bit w) → Q [x_i (-1)] (I, L, lp, tp) := fun h => out _ _ (x_fr_refl _ _) (by rw [if_neg h])
  refine v_shortest (k := k + 58) ?_
  rw [q_ZC_R hc, q_every _ (by omega)]
  refine ⟨hs, fun q => no (by omega), fun q => ⟨⟨by omega, by omega⟩, fun q2 => no (by omega), fun q2 => ?_⟩⟩
  obtain ⟨n, rfl⟩ := Int.eq_ofNat_of_zero_le (show 0 ≤ s by omega)
  obtain ⟨hn, hbit⟩ := q_set_ok (R := q_yR (q_zy z)) (n := n) hR (by omega)
  have hpc8 := q_pc_8 n
  have hpc1 : q_pc n ≠ 0 := fun e => by have := (q_pc_0 hn).mp e; omega
  have fb : ∀ Q' : x_Q, (∀ I', x_fr q_fU2 I I' → I' 161 5 = (q_sh2 z n).1 → I' 161 6 = (if (q_sh2 z n).1 = -1 then -1 else (q_sh2 z n).2) → Q' [] (I', L, lp, tp)) → x_X g (k + 58) 76 [x_r 161, x_i (n : Int)] (I, L, lp, tp) Q' := by
    intro Q' hq'
    refine v_findShort (k := k + 57) (x_le (show 1 ≤ k + 57 by omega) (s_bitCount (k := 0) hn ⟨_, rfl, ?_⟩))
    dsimp only
    have f0 : x_fr q_fU2 I (x_u (x_u (x_u I 161 5 (-1)) 161 6 1000000) 161 2 ((q_pc n : Nat) : Int)) := x_fr_u (x_fr_u (x_fr_u (x_fr_refl _ _) rfl) rfl) rfl
    have hc0 : q_Yc (x_u (x_u (x_u I 161 5 (-1)) 161 6 1000000) 161 2 ((q_pc n : Nat) : Int)) lp (q_zy z) := q_Yc_ag hZ.1 hc.1 (x_fr_ag f0 rfl)
    obtain ⟨m, hm⟩ : ∃ m, q_pc n = m + 1 := ⟨q_pc n - 1, by omega⟩
    have e4 : (x_u (x_u I 161 5 (-1)) 161 6 1000000) 18 4 = q_zh z := hc.2.2.2.1
    have e5 : (x_u (x_u I 161 5 (-1)) 161 6 1000000) 18 5 = q_zc z := hc.2.2.2.2
    rw [e4, e5]
    have hb3 := q_ss_b3 hZ.1 (q_pc n) n (-1) 0 (q_zh z) (q_zc z) 0 0 (-1, 1000000) hn hbit (Or.inl rfl) (by decide) (by decide) (by omega) (q_rw8 _ hpc8) (Or.inl ⟨rfl, rfl⟩)
    refine s_tryShort hZ.1 (RL := ((q_pc n : Nat) : Int)) (by omega) m n (k + 57) (-1) 0 (q_zh z) (q_zc z) 0 0 (-1, 1000000) _ _ hm hn hbit (by omega) hc0 rfl (by omega) (by decide) rfl rfl (Or.inl ⟨rfl, rfl⟩) (Or.inl rfl) (by decide) (by decide) hZ.2.2.1 hZ.2.2.2.1 (by rw [← hm]; exact q_rw8 _ hpc8) (fun I' f' e5 e6 => ⟨rfl, ?_⟩)
    rw [← hm] at e5 e6
    have e5' : I' 161 5 = (q_sh2 z n).1 := e5
    have e6' : I' 161 6 = (q_sh2 z n).2 := e6
    have fr' : x_fr q_fU2 I I' := x_fr_trans f0 (x_fr_mono f' rfl)
    have hb3' : q_b3 (q_sh2 z n) := hb3
    dsimp only
    rw [e5']
    refine ⟨by unfold q_b3 at hb3'; constructor <;> omega, fun c => hq' I' fr' e5' (by rw [if_neg c]; exact e6'), fun c => ?_⟩
    exact hq' _ (x_fr_u fr' rfl) e5' (by rw [if_pos c]; rfl)
  refine ⟨hw, fun c => fb _ (fun I' f' e5 e6 => ⟨rfl, out _ _ f' ?_⟩), fun c => ⟨fun c2 => no (fun h => by have := h.2; unfold q_bit at this; omega), fun c2 => fb _ (fun I' f' e5 e6 => ⟨rfl, out _ _ f' ?_⟩)⟩⟩
  · rw [if_pos ⟨⟨q, by omega⟩, Or.inl c⟩, if_pos c]; exact e5
  · rw [if_pos ⟨⟨q, by omega⟩, Or.inr c2⟩, if_neg (by omega)]; exact e6
