/-! a day passes: the reference -/
abbrev q_fN0 : List (Nat × Nat × Nat) := [(190, 0, 210)]
theorem q_frN0 {I I' : Nat → Nat → Int} (hf : x_fr q_fN0 I I') {a k : Nat} (ha : a ≠ 190) : I' a k = I a k := by
  refine hf a k ?_
  cases e : x_mem q_fN0 a k with
  | false => rfl
  | true =>
    obtain ⟨t, h1, h2, -⟩ := (x_mem_iff _ a k).mp e
    rw [List.mem_singleton.mp h1] at h2
    exact absurd h2 ha
abbrev q_fDd : List (Nat × Nat × Nat) := [(190, 0, 210), (179, 8, 15), (179, 17, 18), (183, 0, 128), (195, 0, 8191), (179, 35, 43), (191, 0, 8), (192, 0, 8), (193, 0, 8)]
theorem m_goDay {g : x_G} {k : Nat} {Q : x_Q} {I L : Nat → Nat → Int} {lp tp D : Nat} {z : q_Z} {FA : Nat → q_AV} {nl : Nat} (hk : 100 ≤ k) (hZ : q_Zk z) (hm : q_ZM I L z FA nl) (hfr : ∀ r, r < 8 → 0 ≤ I 190 (8 + r) ∧ I 190 (8 + r) ≤ 9) (h29 : I 190 29 = ((min 60 D : Nat) : Int)) (hq : ∀ I' L' tp', x_fr q_fDd I I' → q_Lo L L' → q_LM I' L' FA nl → I' 179 40 = q_so (q_zs z) → (∀ x, x < 210 → I' 190 x = q_zn z (I 190) x) → Q [] (I', L', lp, tp')) : x_X g k 233 [x_r 179] (I, L, lp, tp) Q := by
  have hR := q_ZR hZ
  obtain ⟨k, rfl⟩ : ∃ k', k = k' + 1 := ⟨k - 1, by omega⟩
  have hP := (q_zs_rg hZ).2
  refine v_goDay (m_goNow (by omega) hZ hm (fun I1 L1 tp1 f1 l1 m1 hW => ⟨rfl, ?_⟩))
  obtain ⟨⟨w35, w36, w37, w38, w39, w40, w41⟩, -, -, w193⟩ := hW
  have eN : ∀ x, I1 190 x = I 190 x := fun x => f1 _ _ rfl
  dsimp only
  -- the end
  have fin : ∀ I', x_fr q_fN0 I1 I' → (∀ x, x < 210 → I' 190 x = q_zn z (I 190) x) → Q [] (I', L1, lp, tp1) := fun I' f' h => hq I' L1 tp1 (x_fr_trans (x_fr_mono f1 rfl) (x_fr_mono f' rfl)) l1 (q_LM_fr (S := []) m1.1.2.2.2.2.2.1 (fun _ => q_frN0 f' (by decide)) (fun _ => q_frN0 f' (by decide)) (fun _ => q_frN0 f' (by decide)) (fun _ => q_frN0 f' (by decide)) (fun a k ha => q_frN0 f' (by omega)) (fun _ => rfl)) ((q_frN0 f' (by decide)).trans w40) h
  have base : ∀ (N : Nat → Int) x, x < 29 → q_zn z N x = if 8 ≤ x ∧ x < 8 + q_yR (q_zy z) then (if 0 < q_sP (q_zs z) (x - 8) then 0 else min 9 (N x + 1)) else if 16 ≤ x ∧ x < 16 + q_yR (q_zy z) then 0 else if x = 27 then N 27 + q_so (q_zs z) else if x = 28 then N 28 + 1 else N x := fun N x hx => by
    unfold q_zn q_nd
    by_cases c1 : x < 8
    · rw [if_pos c1, if_neg (show ¬ (8 ≤ x ∧ x < 8 + q_yR (q_zy z)) by omega), if_neg (show ¬ (16 ≤ x ∧ x < 16 + q_yR (q_zy z)) by omega), if_neg (show ¬ x = 27 by omega), if_neg (show ¬ x = 28 by omega)]
    · rw [if_neg c1]
      by_cases c2 : x < 16
      · rw [if_pos c2]
        by_cases c3 : x - 8 < q_yR (q_zy z)
        · rw [if_pos c3, if_pos (show 8 ≤ x ∧ x < 8 + q_yR (q_zy z) by omega)]
        · rw [if_neg c3, if_neg (show ¬ (8 ≤ x ∧ x < 8 + q_yR (q_zy z)) by omega), if_neg (show ¬ (16 ≤ x ∧ x < 16 + q_yR (q_zy z)) by omega), if_neg (show ¬ x = 27 by omega), if_neg (show ¬ x = 28 by omega)]
      · rw [if_neg c2, if_neg (show ¬ (8 ≤ x ∧ x < 8 + q_yR (q_zy z)) by omega)]
        by_cases c3 : x < 24
        · rw [if_pos c3]
          by_cases c4 : x - 16 < q_yR (q_zy z)
          · rw [if_pos c4, if_pos (show 16 ≤ x ∧ x < 16 + q_yR (q_zy z) by omega)]
          · rw [if_neg c4, if_neg (show ¬ (16 ≤ x ∧ x < 16 + q_yR (q_zy z)) by omega), if_neg (show ¬ x = 27 by omega), if_neg (show ¬ x = 28 by omega)]
        · rw [if_neg c3, if_neg (show ¬ (16 ≤ x ∧ x < 16 + q_yR (q_zy z)) by omega)]
          by_cases c4 : x < 27
          · rw [if_pos c4, if_neg (show ¬ x = 27 by omega), if_neg (show ¬ x = 28 by omega)]
          · rw [if_neg c4]
            by_cases c5 : x = 27
            · rw [if_pos c5, if_pos c5]
            · rw [if_neg c5, if_neg c5, if_pos (show x = 28 by omega), if_pos (show x = 28 by omega)]
  have tail : ∀ (N : Nat → Int) x, 29 ≤ x → q_zn z N x = if N 29 = 60 then (if x = 29 then 60 else if x < 207 then N (x + 3) else if x = 207 then q_sq (q_zs z) else if x = 208 then q_so (q_zs z) else if x = 209 then q_sm (q_zs z) else N x) else (if x = 29 then N 29 + 1 else if (x : Int) = 30 + 3 * N 29 then q_sq (q_zs z) else if (x : Int) = 30 + 3 * N 29 + 1 then q_so (q_zs z) else if (x : Int) = 30 + 3 * N 29 + 2 then q_sm (q_zs z) else N x) := fun N x hx => by
    unfold q_zn q_nd
    rw [if_neg (show ¬ x < 8 by omega), if_neg (show ¬ x < 16 by omega), if_neg (show ¬ x < 24 by omega), if_neg (show ¬ x < 27 by omega), if_neg (show ¬ x = 27 by omega), if_neg (show ¬ x = 28 by omega)]
  have loop : ∀ (j i : Nat) (J : Nat → Nat → Int), i + j = q_yR (q_zy z) → x_fr q_fN0 I1 J → (∀ x, J 190 x = if 8 ≤ x ∧ x < 8 + i then (if 0 < q_sP (q_zs z) (x - 8) then 0 else min 9 (I 190 x + 1)) else if 16 ≤ x ∧ x < 16 + i then 0 else if x = 27 then I 190 27 + q_so (q_zs z) else I 190 x) → x_S g (k + 1) 233 Q 13 [x_r 179, x_i (i : Int)] [] (J, L1, lp, tp1) := by
    intro j
    induction j with
    | zero =>
      intro i J hm fJ hJ
      obtain rfl : i = q_yR (q_zy z) := by omega
      have j29 : J 190 29 = ((min 60 D : Nat) : Int) := by rw [hJ 29, if_neg (by omega), if_neg (by omega), if_neg (by omega)]; exact h29
      have j28 : J 190 28 = I 190 28 := by rw [hJ 28, if_neg (by omega), if_neg (by omega), if_neg (by omega)]
      have jt : ∀ x, 29 ≤ x → J 190 x = I 190 x := fun x hx => by rw [hJ x, if_neg (by omega), if_neg (by omega), if_neg (by omega)]
      have e36 : J 179 36 = q_sm (q_zs z) := (q_frN0 fJ (by decide)).trans w36
      have e40 : J 179 40 = q_so (q_zs z) := (q_frN0 fJ (by decide)).trans w40
      have e41 : J 179 41 = q_sq (q_zs z) := (q_frN0 fJ (by decide)).trans w41
      have low : ∀ x, x < 29 → (if x = 28 then I 190 28 + 1 else J 190 x) = q_zn z (I 190) x := fun x hx => by
        rw [base _ x hx, hJ x]
        by_cases c : x = 28
        · rw [if_pos c, if_neg (show ¬ (8 ≤ x ∧ x < 8 + q_yR (q_zy z)) by omega), if_neg (show ¬ (16 ≤ x ∧ x < 16 + q_yR (q_zy z)) by omega), if_neg (show ¬ x = 27 by omega), if_pos c]
        · rw [if_neg c, if_neg c]
      refine v_goDay_L13 ?_
      rw [show J 179 24 = (q_yR (q_zy z) : Int) from (q_frN0 fJ (by decide)).trans m1.1.1, j29, j28, e36, e40, e41]
      refine ⟨⟨by omega, by omega⟩, ⟨by omega, by omega⟩, fun _ => ⟨⟨by omega, by omega⟩, fun c => ?_, fun c => ?_⟩, fun q => by omega⟩
      · -- the log is not full
        have cd : D < 60 := by omega
        rw [show ((min 60 D : Nat) : Int) = (D : Int) by omega, show (30 + 3 * (D : Int)).toNat = 30 + 3 * D by omega, show (30 + 3 * (D : Int) + 1).toNat = 30 + 3 * D + 1 by omega, show (30 + 3 * (D : Int) + 2).toNat = 30 + 3 * D + 2 by omega, x_u_ne _ _ (show ¬ (190 = 190 ∧ 29 = 30 + 3 * D + 2) by omega), x_u_ne _ _ (show ¬ (190 = 190 ∧ 29 = 30 + 3 * D + 1) by omega), x_u_ne _ _ (show ¬ (190 = 190 ∧ 29 = 30 + 3 * D) by omega), x_u_ne _ _ (show ¬ (190 = 190 ∧ 29 = 28) by omega), j29]
        refine ⟨⟨by omega, by omega⟩, ⟨by omega, by omega⟩, ⟨by omega, by omega⟩, fin _ (x_fr_u (x_fr_u (k := 30 + 3 * D + 2) (x_fr_u (k := 30 + 3 * D + 1) (x_fr_u (k := 30 + 3 * D) (x_fr_u fJ rfl) (x_mem1 ⟨by omega, by omega⟩)) (x_mem1 ⟨by omega, by omega⟩)) (x_mem1 ⟨by omega, by omega⟩)) rfl) (fun x hx => ?_)⟩
        rw [x_u_eq, x_u_eq, x_u_eq, x_u_eq, x_u_eq]
        by_cases c29 : x < 29
        · rw [if_neg (by omega), if_neg (by omega), if_neg (by omega), if_neg (by omega), ← low x c29]
          by_cases c28 : x = 28
          · rw [if_pos ⟨rfl, c28⟩, if_pos c28]
          · rw [if_neg (by omega), if_neg c28]
        · rw [tail _ x (by omega), h29, if_neg (show ¬ ((min 60 D : Nat) : Int) = 60 by omega)]
          by_cases a1 : x = 29
          · rw [if_pos ⟨rfl, a1⟩, if_pos a1]
          · rw [if_neg (by omega), if_neg a1]
            by_cases a2 : x = 30 + 3 * D
            · rw [if_neg (by omega), if_neg (by omega), if_pos ⟨rfl, a2⟩, if_pos (show (x : Int) = 30 + 3 * ((min 60 D : Nat) : Int) by omega)]
            · rw [if_neg (show ¬ (x : Int) = 30 + 3 * ((min 60 D : Nat) : Int) by omega)]
              by_cases a3 : x = 30 + 3 * D + 1
              · rw [if_neg (by omega), if_pos ⟨rfl, a3⟩, if_pos (show (x : Int) = 30 + 3 * ((min 60 D : Nat) : Int) + 1 by omega)]
              · rw [if_neg (show ¬ (x : Int) = 30 + 3 * ((min 60 D : Nat) : Int) + 1 by omega)]
                by_cases a4 : x = 30 + 3 * D + 2
                · rw [if_pos ⟨rfl, a4⟩, if_pos (show (x : Int) = 30 + 3 * ((min 60 D : Nat) : Int) + 2 by omega)]
                · rw [if_neg (by omega), if_neg (by omega), if_neg (by omega), if_neg (by omega), if_neg (show ¬ (x : Int) = 30 + 3 * ((min 60 D : Nat) : Int) + 2 by omega)]
                  exact jt x (by omega)
      · -- the log is full
        have c60 : I 190 29 = 60 := h29.trans c
        have shift : ∀ (m v : Nat) (K : Nat → Nat → Int), v + m = 178 → 1 ≤ v → x_fr q_fN0 I1 K → (∀ x, x < 29 → K 190 x = q_zn z (I 190) x) → K 190 29 = 60 → (∀ x, 30 ≤ x → K 190 x = if x < 29 + v then I 190 (x + 3) else I 190 x) → x_S g (k + 1) 233 Q 65 [x_r 179, x_i (v : Int)] [] (K, L1, lp, tp1) := by
          intro m
          induction m with
          | zero =>
            intro v K hm hv fK k1 k29 k2
            refine v_goDay_L65 ?_
            rw [k29, show K 179 36 = q_sm (q_zs z) from (q_frN0 fK (by decide)).trans w36, show K 179 40 = q_so (q_zs z) from (q_frN0 fK (by decide)).trans w40, show K 179 41 = q_sq (q_zs z) from (q_frN0 fK (by decide)).trans w41]
            refine ⟨⟨by omega, by omega⟩, fun _ => ⟨by decide, by decide, by decide, fin _ (x_fr_u (x_fr_u (x_fr_u (x_fr_u (x_fr_u fK rfl) rfl) rfl) rfl) rfl) (fun x hx => ?_)⟩, fun q => by omega⟩
            show x_u (x_u (x_u (x_u (x_u K 190 29 59) 190 207 (q_sq (q_zs z))) 190 208 (q_so (q_zs z))) 190 209 (q_sm (q_zs z))) 190 29 (59 + 1) 190 x = _
            rw [x_u_eq, x_u_eq, x_u_eq, x_u_eq, x_u_eq]
            by_cases c29 : x < 29
            · rw [if_neg (by omega), if_neg (by omega), if_neg (by omega), if_neg (by omega), if_neg (by omega)]; exact k1 x c29
            · rw [tail _ x (by omega), if_pos c60]
              by_cases a1 : x = 29
              · rw [if_pos ⟨rfl, a1⟩, if_pos a1]; rfl
              · rw [if_neg (show ¬ (190 = 190 ∧ x = 29) by omega), if_neg a1]
                by_cases a2 : x < 207
                · rw [if_neg (by omega), if_neg (by omega), if_neg (by omega), if_neg (by omega), if_pos a2, k2 x (by omega), if_pos (by omega)]
                · rw [if_neg a2]
                  rcases (show x = 207 ∨ x = 208 ∨ x = 209 by omega) with rfl | rfl | rfl
                  · rfl
                  · rfl
                  · rfl
          | succ m ih =>
            intro v K hm hv fK k1 k29 k2
            refine v_goDay_L65 ?_
            rw [show (29 + (v : Int) + 3).toNat = 32 + v by omega, show (29 + (v : Int)).toNat = 29 + v by omega]
            refine ⟨⟨by omega, by omega⟩, fun q => by omega, fun _ => ⟨⟨by omega, by omega⟩, ⟨by omega, by omega⟩, ih (v + 1) _ (by omega) (by omega) (x_fr_u (k := 29 + v) fK (x_mem1 ⟨by omega, by omega⟩)) (fun x hx => (x_u_ne _ _ (by omega)).trans (k1 x hx)) ((x_u_ne _ _ (by omega)).trans k29) (fun x hx => ?_)⟩⟩
            rw [x_u_eq]
            by_cases e : x = 29 + v
            · rw [if_pos ⟨rfl, e⟩, if_pos (by omega), k2 (32 + v) (by omega), if_neg (by omega), show 32 + v = x + 3 by omega]
            · rw [if_neg (fun h => e h.2), k2 x hx]
              by_cases a : x < 29 + v
              · rw [if_pos a, if_pos (by omega)]
              · rw [if_neg a, if_neg (by omega)]
        refine shift 177 1 _ (by decide) (by decide) (x_fr_u fJ rfl) (fun x hx => ?_) ((x_u_ne _ _ (by omega)).trans (j29.trans c)) (fun x hx => ?_)
        · rw [← low x hx, x_u_eq]
          by_cases c28 : x = 28
          · rw [if_pos ⟨rfl, c28⟩, if_pos c28]
          · rw [if_neg (by omega), if_neg c28]
        · rw [x_u_ne _ _ (by omega), if_neg (by omega)]; exact jt x (by omega)
    | succ j ih =>
      intro i J hm fJ hJ
      have hp := hP i
      have hf := hfr i (by omega)
      have e8 : J 190 (8 + i) = I 190 (8 + i) := by rw [hJ, if_neg (by omega), if_neg (by omega), if_neg (by omega)]
      have nx : ∀ v : Int, v = (if 0 < q_sP (q_zs z) i then 0 else min 9 (I 190 (8 + i) + 1)) → x_S g (k + 1) 233 Q 13 [x_r 179, x_i ((i : Int) + 1)] [] (x_u (x_u J 190 (8 + i) v) 190 (16 + i) 0, L1, lp, tp1) := fun v hv => by
        refine ih (i + 1) _ (by omega) (x_fr_u (k := 16 + i) (x_fr_u (k := 8 + i) fJ (x_mem1 ⟨by omega, by omega⟩)) (x_mem1 ⟨by omega, by omega⟩)) (fun x => ?_)
        rw [x_u_eq, x_u_eq]
        by_cases a1 : x = 8 + i
        · rw [if_neg (by omega), if_pos ⟨rfl, a1⟩, if_pos (show 8 ≤ x ∧ x < 8 + (i + 1) by omega), hv, a1, show 8 + i - 8 = i by omega]
        · by_cases a2 : x = 16 + i
          · rw [if_pos ⟨rfl, a2⟩, if_neg (show ¬ (8 ≤ x ∧ x < 8 + (i + 1)) by omega), if_pos (show 16 ≤ x ∧ x < 16 + (i + 1) by omega)]
          · rw [if_neg (by omega), if_neg (by omega), hJ x]
            by_cases a3 : 8 ≤ x ∧ x < 8 + i
            · rw [if_pos a3, if_pos (show 8 ≤ x ∧ x < 8 + (i + 1) by omega)]
            · rw [if_neg a3, if_neg (show ¬ (8 ≤ x ∧ x < 8 + (i + 1)) by omega)]
              by_cases a4 : 16 ≤ x ∧ x < 16 + i
              · rw [if_pos a4, if_pos (show 16 ≤ x ∧ x < 16 + (i + 1) by omega)]
              · rw [if_neg a4, if_neg (show ¬ (16 ≤ x ∧ x < 16 + (i + 1)) by omega)]
      refine v_goDay_L13 ?_
      rw [show J 179 24 = (q_yR (q_zy z) : Int) from (q_frN0 fJ (by decide)).trans m1.1.1, show ((i : Int)).toNat = i by omega, show (8 + (i : Int)).toNat = 8 + i by omega, show (16 + (i : Int)).toNat = 16 + i by omega, show J 193 i = q_sP (q_zs z) i from (q_frN0 fJ (by decide)).trans (w193 i (by omega)), e8]
      exact ⟨⟨by omega, by omega⟩, ⟨by omega, by omega⟩, fun q => by omega, fun _ => ⟨⟨by omega, by omega⟩, ⟨by omega, by omega⟩, fun c => ⟨⟨by omega, by omega⟩, ⟨by omega, by omega⟩, ⟨by omega, by omega⟩, nx _ (by rw [if_neg (by omega)])⟩, fun c => ⟨⟨by omega, by omega⟩, ⟨by omega, by omega⟩, nx _ (by rw [if_pos c])⟩⟩⟩
  refine loop (q_yR (q_zy z)) 0 _ (Nat.zero_add _) (x_fr_u (x_fr_refl _ _) rfl) (fun x => ?_)
  rw [x_u_eq, if_neg (show ¬ (8 ≤ x ∧ x < 8 + 0) by omega), if_neg (show ¬ (16 ≤ x ∧ x < 16 + 0) by omega)]
  by_cases c : x = 27
  · rw [if_pos ⟨rfl, c⟩, if_pos c, eN, w40]
  · rw [if_neg (by omega), if_neg c, eN]
