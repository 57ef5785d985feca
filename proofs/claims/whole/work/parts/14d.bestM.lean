/-! best, by the reference -/
abbrev q_fF : List (Nat × Nat × Nat) := [(179, 8, 15), (179, 17, 18), (183, 0, 128), (195, 0, 8191), (179, 35, 43), (191, 0, 8), (192, 0, 8), (193, 0, 8), (179, 48, 50)]
theorem q_Ym_u {I L : Nat → Nat → Int} {y : q_Y} {FA : Nat → q_AV} {nl : Nat} (h : q_Ym I L y FA nl) {k : Nat} {v : Int} (hk : k ≠ 24 ∧ k ≠ 29) : q_Ym (x_u I 179 k v) L y FA nl := q_Ym_eq h (x_u_ne _ _ (by omega)) (x_u_ne _ _ (by omega)) (fun _ => rfl) (fun _ => rfl) (fun _ => rfl) (q_LM_u h.2.2.2.2.2.1 (by decide))
theorem s_again {g : x_G} {k : Nat} {Q : x_Q} {I L : Nat → Nat → Int} {lp tp : Nat} {y : q_Y} {FA : Nat → q_AV} {nl : Nat} (hYm : q_Ym I L y FA nl) {s : q_S} {r : Nat} (hr : r < 8) (hW : q_W7 I (q_stp y s r)) (h193 : I 193 r = q_po y (q_sc s) r) (hq : ∀ I', x_fr q_fF I I' → I' 179 48 = I 179 48 → I' 179 49 = I 179 49 → (∀ x, I' 193 x = I 193 x) → q_Ym I' L y FA nl → q_W7 I' s → Q [] (I', L, lp, tp)) : x_X g (k + 1) 253 [x_r 179, x_i (q_sf s), x_i (q_sm s), x_i (q_sh s), x_i (q_sc s), x_i (q_so s), x_i (r : Int)] (I, L, lp, tp) Q := by
  obtain ⟨w1, w2, w3, w4, w5, w6, w7⟩ := hW
  refine v_again ⟨⟨by omega, by omega⟩, ?_⟩
  rw [show ((r : Int)).toNat = r by omega, h193]
  refine hq _ (x_fr_u (x_fr_u (x_fr_u (x_fr_u (x_fr_u (x_fr_u (x_fr_u (x_fr_refl _ _) rfl) rfl) rfl) rfl) rfl) rfl) rfl) rfl rfl (fun _ => rfl) (q_Ym_u (q_Ym_u (q_Ym_u (q_Ym_u (q_Ym_u (q_Ym_u (q_Ym_u hYm (by decide)) (by decide)) (by decide)) (by decide)) (by decide)) (by decide)) (by decide)) ⟨rfl, rfl, rfl, rfl, ?_, rfl, ?_⟩
  · show I 179 39 - 1 = q_sn s
    rw [w5]; show q_sn s + 1 - 1 = q_sn s; omega
  · show I 179 41 - q_po y (q_sc s) r = q_sq s
    rw [w7]; show q_sq s + q_po y (q_sc s) r - q_po y (q_sc s) r = q_sq s; omega
theorem m_goBest {g : x_G} {lp : Nat} {y : q_Y} {FA : Nat → q_AV} {nl : Nat} (hY : q_Yk y) : ∀ (m rem k : Nat) (s : q_S) (row : Int) (b : Int × Int) (I L : Nat → Nat → Int) (tp : Nat) (Q : x_Q), q_pc rem = m → rem < 256 → (∀ r, rem.testBit r = true → r < q_yR y) → 97 + 2 * m ≤ k → q_Ym I L y FA nl → q_Si y s → q_W7 I s → q_sn s + (m : Int) ≤ 8 → I 179 48 = b.1 → I 179 49 = b.2 → q_b2 b → (∀ I' L' tp', x_fr q_fF I I' → q_Lo L L' → q_Ym I' L' y FA nl → q_W7 I' s → (∀ x, rem.testBit x = false → I' 193 x = I 193 x) → I' 179 48 = (q_bs y m rem (q_sf s) (q_sh s) (q_sc s) (q_sn s) (q_so s) row b).1 → I' 179 49 = (q_bs y m rem (q_sf s) (q_sh s) (q_sc s) (q_sn s) (q_so s) row b).2 → Q [] (I', L', lp, tp')) → x_X g k 254 [x_r 179, x_i (rem : Int), x_i row] (I, L, lp, tp) Q := by
  intro m
  induction m with
  | zero =>
    intro rem k s row b I L tp Q hpc hrem hbit hk hYm hs hW hsn h48 h49 hb hq
    obtain ⟨k, rfl⟩ : ∃ k', k = k' + 2 := ⟨k - 2, by omega⟩
    have hr0 : rem = 0 := (q_pc_0 hrem).mp hpc
    obtain ⟨-, -, s3, s4, s5, s6, s7, -⟩ := hs
    rw [q_bs] at hq
    unfold q_b2 at hb
    refine v_goBest ?_
    rw [hW.2.2.2.2.2.1, h49]
    refine ⟨⟨by omega, by omega⟩, fun q => absurd (by rw [hr0]; rfl) q, fun _ => ⟨⟨by omega, by omega⟩, ⟨by omega, by omega⟩, fun q => ?_, fun q => ?_⟩⟩
    · rw [if_pos q] at hq
      exact hq _ L tp (x_fr_u (x_fr_u (x_fr_refl _ _) rfl) rfl) (fun _ _ _ => rfl) (q_Ym_u (q_Ym_u hYm (by decide)) (by decide)) hW (fun _ _ => rfl) rfl rfl
    · rw [if_neg (by omega)] at hq
      exact hq I L tp (x_fr_refl _ _) (fun _ _ _ => rfl) hYm hW (fun _ _ => rfl) h48 h49
  | succ m ih =>
    intro rem k s row b I L tp Q hpc hrem hbit hk hYm hs hW hsn h48 h49 hb hq
    obtain ⟨k, rfl⟩ : ∃ k', k = k' + 2 := ⟨k - 2, by omega⟩
    have hR : q_yR y ≤ 8 := by rcases hY.1.1 with q | q <;> omega
    have hrem0 : ¬ rem = 0 := fun e => by rw [(q_pc_0 hrem).mpr e] at hpc; omega
    have hs0 := hs
    obtain ⟨s1, s2, s3, s4, s5, s6, s7, s8, -⟩ := hs
    rw [q_bs] at hq
    have loop : ∀ (j i : Nat) (b : Int × Int) (J M : Nat → Nat → Int) (tq : Nat), i + j = q_yR y → x_fr q_fF I J → q_Lo L M → q_Ym J M y FA nl → q_W7 J s → (∀ x, rem.testBit x = false → J 193 x = I 193 x) → J 179 48 = b.1 → J 179 49 = b.2 → q_b2 b → (∀ I' L' tp', x_fr q_fF I I' → q_Lo L L' → q_Ym I' L' y FA nl → q_W7 I' s → (∀ x, rem.testBit x = false → I' 193 x = I 193 x) → I' 179 48 = (q_fd (fun r b => if rem.testBit r = true then q_bs y m (q_wo rem r) (r : Int) (q_yht y (q_sh s) (q_sf s) r (q_sc s) (q_sn s) 0) (q_sc s - q_po y (q_sc s) r) (q_sn s + 1) (q_so s + q_ho y (q_sh s) (q_sf s) r (q_sc s) (q_sn s)) (10 * row + (r : Int)) b else b) j i b).1 → I' 179 49 = (q_fd (fun r b => if rem.testBit r = true then q_bs y m (q_wo rem r) (r : Int) (q_yht y (q_sh s) (q_sf s) r (q_sc s) (q_sn s) 0) (q_sc s - q_po y (q_sc s) r) (q_sn s + 1) (q_so s + q_ho y (q_sh s) (q_sf s) r (q_sc s) (q_sn s)) (10 * row + (r : Int)) b else b) j i b).2 → Q [] (I', L', lp, tp')) → x_S g (k + 2) 254 Q 33 [x_r 179, x_i (rem : Int), x_i row, x_i (q_sf s), x_i (q_sm s), x_i (q_sh s), x_i (q_sc s), x_i (q_so s), x_i (i : Int)] [] (J, M, lp, tq) := by
      intro j
      induction j with
      | zero =>
        intro i b J M tq hm fJ lM hYJ WJ j193 j48 j49 hb hq
        refine v_goBest_L33 ?_
        rw [hYJ.1]
        exact ⟨⟨by omega, by omega⟩, ⟨by omega, by omega⟩, fun _ => hq J M tq fJ lM hYJ WJ j193 j48 j49, fun q => by omega⟩
      | succ j ihj =>
        intro i b J M tq hm fJ lM hYJ WJ j193 j48 j49 hb hq
        rw [q_fd] at hq
        refine v_goBest_L33 ?_
        rw [hYJ.1, show ((i : Int)).toNat = i by omega, show ((rem : Int)).toNat = rem by omega, q_wo_eq rem i hrem (by omega)]
        refine ⟨⟨by omega, by omega⟩, ⟨by omega, by omega⟩, fun q => by omega, fun q => ⟨⟨by omega, by omega⟩, ⟨by omega, by omega⟩, fun cb => ?_, fun cb => ?_⟩⟩
        · have hi := hbit i cb
          have wk := hY.2.2 i hi
          have hpo : 0 ≤ q_po y (q_sc s) i ∧ q_po y (q_sc s) i ≤ q_sc s := by unfold q_po; omega
          rw [if_pos cb] at hq
          have hqp := q_pc_wo hrem (show i < 8 by omega) cb
          have bits : ∀ x, (q_wo rem i).testBit x = true → x < q_yR y := fun x hx => by
            rw [q_wo_bit rem i x hrem (by omega)] at hx
            exact hbit x (by simp at hx; exact hx.1)
          refine m_comesTo (by omega) hY hYJ hs0 (by omega) WJ hi (fun I4 L4 tp4 f4 l4 hY4 W4 h191 h192 h193 h42 => ⟨rfl, ?_⟩)
          have e193 : I4 193 i = q_po y (q_sc s) i := by rw [h193]; exact if_pos rfl
          refine ih (q_wo rem i) k (q_stp y s i) (10 * row + (i : Int)) b I4 L4 tp4 _ (by omega) (q_wo_lt rem i hrem) bits (by omega) hY4 (q_Si_stp hY hs0 hi) W4 (by show q_sn s + 1 + (m : Int) ≤ 8; omega) ((f4 _ _ rfl).trans j48) ((f4 _ _ rfl).trans j49) hb (fun I7 L7 tp7 f7 l7 hY7 W7 n193 e48 e49 => ⟨rfl, ?_⟩)
          have e193' : I7 193 i = q_po y (q_sc s) i := by
            rw [n193 i (by rw [q_wo_bit rem i i hrem (by omega)]; simp), e193]
          refine x_le (show 1 ≤ k by omega) (s_again (k := 0) hY7 (by omega) W7 e193' (fun I9 f9 e48' e49' n9 hY9 W9 => ⟨rfl, ?_⟩))
          refine ihj (i + 1) _ I9 L7 tp7 (by omega) (x_fr_trans (x_fr_trans (x_fr_trans fJ (x_fr_mono f4 rfl)) f7) f9) (fun a k ha => (l7 a k ha).trans ((l4 a k ha).trans (lM a k ha))) hY9 W9 (fun x hx => ?_) (e48'.trans e48) (e49'.trans e49) ?_ hq
          · have hxi : ¬ x = i := fun e => by rw [e, cb] at hx; cases hx
            rw [n9 x, n193 x (by rw [q_wo_bit rem i x hrem (by omega), hx]; rfl), h193 x]
            show q_up (J 193) i _ x = _
            unfold q_up
            rw [if_neg hxi]
            exact j193 x hx
          · refine q_bs_b2 hY m _ _ _ _ _ _ _ b (q_wo_lt rem i hrem) bits ?_ ?_ ?_ hb
            · show 0 ≤ q_sc s - q_po y (q_sc s) i; omega
            · show 0 ≤ q_so s + q_ho y (q_sh s) (q_sf s) i (q_sc s) (q_sn s)
              unfold q_ho; split <;> omega
            · show q_so s + q_ho y (q_sh s) (q_sf s) i (q_sc s) (q_sn s) + (q_sc s - q_po y (q_sc s) i) ≤ 60
              unfold q_ho; split <;> omega
        · rw [if_neg cb] at hq
          exact ihj (i + 1) b J M tq (by omega) fJ lM hYJ WJ j193 j48 j49 hb hq
    obtain ⟨w1, w2, w3, w4, w5, w6, w7⟩ := hW
    refine v_goBest ?_
    rw [w1, w2, w3, w4, w6]
    refine ⟨⟨by omega, by omega⟩, fun _ => loop (q_yR y) 0 b I L tp (Nat.zero_add _) (x_fr_refl _ _) (fun _ _ _ => rfl) hYm ⟨w1, w2, w3, w4, w5, w6, w7⟩ (fun _ _ => rfl) h48 h49 hb hq, fun q => absurd (by omega) hrem0⟩
abbrev q_fG2 : List (Nat × Nat × Nat) := [(179, 0, 1), (179, 8, 15), (179, 17, 18), (183, 0, 128), (195, 0, 8191), (179, 35, 43), (191, 0, 8), (192, 0, 8), (193, 0, 8), (179, 48, 50)]
theorem m_setsOut {g : x_G} {k : Nat} {Q : x_Q} {I L : Nat → Nat → Int} {lp tp : Nat} {z : q_Z} {FA : Nat → q_AV} {nl : Nat} (hm : q_ZM I L z FA nl) (hq : ∀ I', x_fr [(179, 35, 43)] I I' → q_ZM I' L z FA nl → q_W7 I' (q_s0 (q_zh z) (q_zc z)) → Q [] (I', L, lp, tp)) : x_X g (k + 1) 227 [x_r 179] (I, L, lp, tp) Q := by
  have fr0 : x_fr [(179, 35, 43)] I (x_u (x_u (x_u (x_u (x_u (x_u (x_u (x_u I 179 35 (-1)) 179 36 0) 179 37 (I 190 25)) 179 38 (I 190 26)) 179 39 0) 179 40 0) 179 41 0) 179 42 (x_shl 1 (I 179 24) - 1)) := x_fr_u (x_fr_u (x_fr_u (x_fr_u (x_fr_u (x_fr_u (x_fr_u (x_fr_u (x_fr_refl _ _) rfl) rfl) rfl) rfl) rfl) rfl) rfl) rfl
  refine v_setsOut (hq _ fr0 (q_ZM_eq hm (q_Ym_u (q_Ym_u (q_Ym_u (q_Ym_u (q_Ym_u (q_Ym_u (q_Ym_u (q_Ym_u hm.1 (by decide)) (by decide)) (by decide)) (by decide)) (by decide)) (by decide)) (by decide)) (by decide)) rfl (fun _ => rfl) (fun _ => rfl) (fun _ => rfl)) ⟨rfl, rfl, hm.2.2.2.1, hm.2.2.2.2, rfl, rfl, rfl⟩)
theorem m_best {g : x_G} {k : Nat} {Q : x_Q} {I L : Nat → Nat → Int} {lp tp : Nat} {z : q_Z} {FA : Nat → q_AV} {nl : Nat} (hk : 130 ≤ k) (hZ : q_Zk z) (hm : q_ZM I L z FA nl) {w : Int} (hw : x_rg w) (hq : ∀ I' L' tp', x_fr q_fG2 I I' → q_Lo L L' → q_LM I' L' FA nl → Q [x_i (if ¬ q_yR (q_zy z) = 0 ∧ q_bit w then (if w = 0 then (q_best z).1 else (q_best z).2) else -1)] (I', L', lp, tp')) : x_X g k 255 [x_r 179, x_i w] (I, L, lp, tp) Q := by
  obtain ⟨k, rfl⟩ : ∃ k', k = k' + 2 := ⟨k - 2, by omega⟩
  have hR := q_ZR hZ
  have hp := q_pow8 hR
  have hm0 := q_ZM_0 hm 0
  have f0 : x_fr q_fG2 I (x_u I 179 0 0) := x_fr_u (x_fr_refl _ _) rfl
  have no : ¬ (¬ q_yR (q_zy z) = 0 ∧ q_bit w) → Q [x_i (-1)] (x_u I 179 0 0, L, lp, tp) := fun h => by have := hq _ L tp f0 (fun _ _ _ => rfl) hm0.1.2.2.2.2.2.1; rw [if_neg h] at this; exact this
  refine v_bestM ?_
  rw [hm.1.1]
  refine ⟨⟨by omega, by omega⟩, fun q => no (by omega), fun q => ⟨hw, fun c => ?_, fun c => no (fun h => c (q_bit_in.mpr h.2))⟩⟩
  refine x_le (show 1 ≤ k by omega) (m_setsOut (k := 0) hm0 (fun I1 f1 m1 W1 => ⟨rfl, ?_⟩))
  dsimp only
  rw [m1.1.1, q_every _ (by omega)]
  have f2 : x_fr q_fG2 I (x_u (x_u I1 179 49 (-1)) 179 48 (-1)) := x_fr_u (x_fr_u (x_fr_trans f0 (x_fr_mono f1 rfl)) rfl) rfl
  refine m_goBest hZ.1 (q_yR (q_zy z)) (2 ^ q_yR (q_zy z) - 1) k (q_s0 (q_zh z) (q_zc z)) 0 (-1, -1) _ L tp _ (q_pc_every hR) (by omega) (fun r hr => ?_) (by omega) (q_Ym_u (q_Ym_u m1.1 (by decide)) (by decide)) (q_Si_0 _ hZ.2.2.1 hZ.2.2.2.1) W1 (by show (0 : Int) + _ ≤ 8; omega) rfl rfl ⟨by decide, by decide⟩ (fun I' L' tp' f' l' y' w' n' e48 e49 => ⟨rfl, ?_⟩)
  · rw [q_every_bit] at hr; simpa using hr
  · have := hq I' L' tp' (x_fr_trans f2 (x_fr_mono f' rfl)) l' y'.2.2.2.2.2.1
    rw [if_pos ⟨by omega, q_bit_in.mp c⟩] at this
    refine ⟨fun c2 => ?_, fun c2 => ?_⟩
    · rw [if_neg c2] at this
      dsimp only
      rw [e49]; exact this
    · rw [if_pos c2] at this
      dsimp only
      rw [e48]; exact this
