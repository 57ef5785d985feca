/-! a day passes: the row behind it; the class -/
def q_nd (R : Nat) (P : Nat → Int) (hot tea mins : Int) (N : Nat → Int) : Nat → Int := fun x =>
  if x < 8 then N x
  else if x < 16 then (if x - 8 < R then (if 0 < P (x - 8) then 0 else min 9 (N x + 1)) else N x)
  else if x < 24 then (if x - 16 < R then 0 else N x)
  else if x < 27 then N x
  else if x = 27 then N 27 + hot
  else if x = 28 then N 28 + 1
  else if N 29 = 60 then (if x = 29 then 60 else if x < 207 then N (x + 3) else if x = 207 then tea else if x = 208 then hot else if x = 209 then mins else N x)
  else (if x = 29 then N 29 + 1 else if (x : Int) = 30 + 3 * N 29 then tea else if (x : Int) = 30 + 3 * N 29 + 1 then hot else if (x : Int) = 30 + 3 * N 29 + 2 then mins else N x)
def q_zn (z : q_Z) (N : Nat → Int) : Nat → Int := q_nd (q_yR (q_zy z)) (q_sP (q_zs z)) (q_so (q_zs z)) (q_sq (q_zs z)) (q_sm (q_zs z)) N
abbrev q_fKd : List (Nat × Nat × Nat) := [(20, 0, 8), (23, 0, 300), (18, 2, 3), (18, 6, 8), (155, 0, 6), (167, 3, 4), (169, 0, 40), (170, 3, 4), (172, 0, 40), (173, 3, 4), (175, 0, 40), (176, 3, 4), (178, 0, 40), (156, 5, 13), (157, 0, 8), (158, 0, 8), (159, 0, 8), (160, 0, 8)]
theorem s_passDay {g : x_G} {k : Nat} {Q : x_Q} {I L : Nat → Nat → Int} {lp tp D : Nat} {z : q_Z} {N : Nat → Int} (hZ : q_Zk z) (hc : q_ZC I lp z) (hN : q_St I 18 N) (hfr : ∀ r, r < 8 → 0 ≤ N (8 + r) ∧ N (8 + r) ≤ 9) (hsh : ∀ r, q_yR (q_zy z) ≤ r → r < 8 → N (16 + r) = 0) (hD : N 28 = (D : Int)) (hD1 : D < 9999) (hq : ∀ I', x_fr q_fKd I I' → I' 156 10 = q_so (q_zs z) → q_St I' 18 (q_zn z N) → (∀ x, I' 23 x = if x = 3 * (D % 100) then q_sq (q_zs z) else if x = 3 * (D % 100) + 1 then q_so (q_zs z) else if x = 3 * (D % 100) + 2 then q_sm (q_zs z) else I 23 x) → Q [] (I', L, lp, tp)) : x_X g (k + 15) 145 [x_r 1] (I, L, lp, tp) Q := by
  have hR := q_ZR hZ
  refine v_passDay (k := k + 12) (s_goRound hZ hc (fun I1 f1 hc1 hW => ⟨rfl, ?_⟩))
  obtain ⟨w5, w8, w9, w10, w11, w12, wr, -⟩ := hW
  have hP := (q_zs_rg hZ).2
  have hP0 := q_zs_P0 z
  have hb : q_sb (q_zs z) < 256 := (q_zs_ok hZ).2.2.2.2.2.2.2.2.2.2
  have hN1 : q_St I1 18 N := q_St_eq hN (fun k _ _ => f1 _ _ rfl) (fun k _ => ⟨f1 _ _ rfl, f1 _ _ rfl⟩)
  obtain ⟨n1, ⟨d, d1, d2, d3⟩, n3, n4, n5, n6, n7⟩ := hN1
  dsimp only
  have loop : ∀ (j i : Nat) (J : Nat → Nat → Int), i + j = q_yR (q_zy z) → x_fr [(20, 0, 8), (18, 6, 7)] I1 J → J 18 6 = N 27 + q_so (q_zs z) → (∀ r, r < 8 → J 20 r = if r < i then (if 0 < q_sP (q_zs z) r then 0 else min 9 (N (8 + r) + 1)) else N (8 + r)) → x_S g (k + 12 + 3) 145 Q 13 [x_r 1, x_i (i : Int), x_n] [] (J, L, lp, tp) := by
    intro j
    induction j with
    | zero =>
      intro i J hm fJ j6 hJ
      have e7 : J 18 7 = (D : Int) := (fJ _ _ rfl).trans (n7.trans hD)
      refine v_passDay_L13 ?_
      rw [show J 14 3 = (q_yR (q_zy z) : Int) from (fJ _ _ rfl).trans (q_ZC_R hc1), e7, fJ 156 9 rfl, fJ 156 10 rfl, fJ 156 11 rfl, w9, w10, w11]
      refine ⟨⟨by omega, by omega⟩, ⟨by omega, by omega⟩, fun _ => x_le (show 2 ≤ k + 12 by omega) (v_note (k := 0) ?_), fun q => by omega⟩
      rw [show ((D : Int) % 100 * 3).toNat = 3 * (D % 100) by omega, show ((D : Int) % 100 * 3 + 1).toNat = 3 * (D % 100) + 1 by omega, show ((D : Int) % 100 * 3 + 2).toNat = 3 * (D % 100) + 2 by omega]
      refine ⟨⟨by omega, by omega⟩, ⟨by omega, by omega⟩, ⟨by omega, by omega⟩, ⟨by omega, by omega⟩, rfl, ?_⟩
      dsimp only
      generalize hJ2 : x_u (x_u (x_u J 23 (3 * (D % 100)) (q_sq (q_zs z))) 23 (3 * (D % 100) + 1) (q_so (q_zs z))) 23 (3 * (D % 100) + 2) (q_sm (q_zs z)) = J2
      have o1 : ∀ a k, ¬ a = 23 → J2 a k = J a k := fun a k h => by rw [← hJ2, x_u_ne _ _ (by omega), x_u_ne _ _ (by omega), x_u_ne _ _ (by omega)]
      have f2 : x_fr q_fKd I J2 := by
        rw [← hJ2]
        exact x_fr_u (k := 3 * (D % 100) + 2) (x_fr_u (k := 3 * (D % 100) + 1) (x_fr_u (k := 3 * (D % 100)) (x_fr_trans (x_fr_mono f1 rfl) (x_fr_mono fJ rfl)) (x_mem2 (b := 0) (lo := 0) (hi := 0) (x_mem1 ⟨by omega, by omega⟩))) (x_mem2 (b := 0) (lo := 0) (hi := 0) (x_mem1 ⟨by omega, by omega⟩))) (x_mem2 (b := 0) (lo := 0) (hi := 0) (x_mem1 ⟨by omega, by omega⟩))
      rw [o1 18 7 (by decide), e7]
      have o2 : ∀ a k, ¬ (a = 18 ∧ (k = 2 ∨ k = 7)) → x_u (x_u J2 18 2 0) 18 7 ((D : Int) + 1) a k = J2 a k := fun a k h => by rw [x_u_ne _ _ (by omega), x_u_ne _ _ (by omega)]
      refine hq _ (x_fr_u (x_fr_u f2 rfl) rfl) ?_ ?_ (fun x => ?_)
      · rw [o2 _ _ (by omega), o1 _ _ (by decide), fJ 156 10 rfl, w10]
      · refine ⟨fun r hr => ⟨?_, ?_⟩, ⟨0, by decide, ?_, fun r hr => ?_⟩, ?_, ?_, ?_, ?_, ?_⟩
        · rw [o2 _ _ (by omega), o1 _ _ (by decide)]
          show J 19 r = if r < 8 then N r else _
          rw [if_pos hr, fJ 19 r rfl]; exact (n1 r hr).1
        · rw [o2 _ _ (by omega), o1 _ _ (by decide)]
          show J 20 r = if 8 + r < 8 then _ else if 8 + r < 16 then (if 8 + r - 8 < q_yR (q_zy z) then (if 0 < q_sP (q_zs z) (8 + r - 8) then 0 else min 9 (N (8 + r) + 1)) else N (8 + r)) else _
          rw [if_neg (by omega), if_pos (by omega), show 8 + r - 8 = r by omega, hJ r hr]
          by_cases c : r < i
          · rw [if_pos c, if_pos (show r < q_yR (q_zy z) by omega)]
          · rw [if_neg c, if_neg (show ¬ r < q_yR (q_zy z) by omega)]
        · rw [x_u_ne _ _ (by omega), x_u_same]; rfl
        · rw [if_neg (by simp)]
          show (if 16 + r < 8 then _ else if 16 + r < 16 then _ else if 16 + r < 24 then (if 16 + r - 16 < q_yR (q_zy z) then 0 else N (16 + r)) else _) = (0 : Int)
          rw [if_neg (by omega), if_neg (by omega), if_pos (by omega), show 16 + r - 16 = r by omega]
          by_cases c : r < q_yR (q_zy z)
          · rw [if_pos c]
          · rw [if_neg c]; exact hsh r (by omega) hr
        · rw [o2 _ _ (by omega), o1 _ _ (by decide), fJ 18 3 rfl]; exact n3
        · rw [o2 _ _ (by omega), o1 _ _ (by decide), fJ 18 4 rfl]; exact n4
        · rw [o2 _ _ (by omega), o1 _ _ (by decide), fJ 18 5 rfl]; exact n5
        · rw [o2 _ _ (by omega), o1 _ _ (by decide), j6]; rfl
        · rw [x_u_same, ← hD]; rfl
      · rw [o2 _ _ (by omega), ← hJ2, x_u_eq, x_u_eq, x_u_eq, fJ 23 x rfl, f1 23 x rfl]
        by_cases c1 : x = 3 * (D % 100)
        · rw [if_neg (by omega), if_neg (by omega), if_pos ⟨rfl, c1⟩, if_pos c1]
        · by_cases c2 : x = 3 * (D % 100) + 1
          · rw [if_neg (by omega), if_pos ⟨rfl, c2⟩, if_neg c1, if_pos c2]
          · by_cases c3 : x = 3 * (D % 100) + 2
            · rw [if_pos ⟨rfl, c3⟩, if_neg c1, if_neg c2, if_pos c3]
            · rw [if_neg (by omega), if_neg (by omega), if_neg (by omega), if_neg c1, if_neg c2, if_neg c3]
    | succ j ih =>
      intro i J hm fJ j6 hJ
      have hi8 : i < 8 := by omega
      have e20 := hJ i hi8
      rw [if_neg (by omega)] at e20
      have hf := hfr i hi8
      have nx : ∀ v : Int, v = (if 0 < q_sP (q_zs z) i then 0 else min 9 (N (8 + i) + 1)) → x_S g (k + 12 + 3) 145 Q 13 [x_r 1, x_i ((i : Int) + 1), x_n] [] (x_u J 20 i v, L, lp, tp) := fun v hv => by
        refine ih (i + 1) _ (by omega) (x_fr_u (k := i) fJ (x_mem1 ⟨by omega, by omega⟩)) ((x_u_ne _ _ (by omega)).trans j6) (fun r hr => ?_)
        rw [x_u_eq]
        by_cases e : r = i
        · rw [if_pos ⟨rfl, e⟩, if_pos (by omega), hv, e]
        · rw [if_neg (fun h => e h.2), hJ r hr]
          by_cases c : r < i
          · rw [if_pos c, if_pos (show r < i + 1 by omega)]
          · rw [if_neg c, if_neg (show ¬ r < i + 1 by omega)]
      have e8 : J 156 8 = (q_sb (q_zs z) : Int) := (fJ _ _ rfl).trans w8
      refine v_passDay_L13 ?_
      rw [show J 14 3 = (q_yR (q_zy z) : Int) from (fJ _ _ rfl).trans (q_ZC_R hc1), e8, show ((i : Int)).toNat = i by omega, show ((q_sb (q_zs z) : Int)).toNat = q_sb (q_zs z) by omega, e20]
      refine ⟨⟨by omega, by omega⟩, ⟨by omega, by omega⟩, fun q => by omega, fun _ => ⟨⟨by omega, by omega⟩, ⟨by omega, by omega⟩, fun cb => ?_, fun cb => ?_⟩⟩
      · have hp := hP i
        rw [show J 159 i = q_sP (q_zs z) i from (fJ _ _ rfl).trans (wr i hi8 cb).2.2]
        exact ⟨⟨by omega, by omega⟩, ⟨by omega, by omega⟩, fun c => ⟨⟨by omega, by omega⟩, nx _ (by rw [if_neg (by omega)])⟩, fun c => nx _ (by rw [if_pos c])⟩
      · have hp := hP0 i (by cases e : (q_sb (q_zs z)).testBit i with | false => rfl | true => exact absurd e cb)
        exact ⟨⟨by omega, by omega⟩, ⟨by omega, by omega⟩, nx _ (by rw [if_neg (by omega)])⟩
  refine loop (q_yR (q_zy z)) 0 _ (Nat.zero_add _) (x_fr_u (x_fr_refl _ _) rfl) ?_ (fun r hr => ?_)
  · rw [x_u_same, n6, w10]
  · rw [x_u_ne _ _ (by omega), if_neg (by omega)]; exact (n1 r hr).2
