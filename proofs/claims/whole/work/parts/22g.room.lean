/-! room: what the law does behind its call, and the reference's answer -/
def q_rmv (a : q_A) (r w : Int) : Int := if w = 2 then q_vN (j_v a) r.toNat else if w = 5 then q_vN (j_v a) (8 + r.toNat) else if w = 6 then q_vN (j_v a) (16 + r.toNat) else j_to a (5 * r.toNat + w.toNat)
theorem q_rmv_rg {a : q_A} (hP : q_JP a) {r w : Int} (hr : 0 ≤ r ∧ r < (j_R a : Int)) (hw : 0 ≤ w ∧ w ≤ 6) : 0 ≤ q_rmv a r w ∧ q_rmv a r w ≤ 99 := by
  have hR := q_R8 hP
  obtain ⟨D, hN, -⟩ := q_Hk_d hP.2.2.2.1
  have h1 := hN.1 r.toNat (by omega)
  have h2 := hP.1.2.2 r.toNat (by omega)
  unfold q_rmv
  by_cases c2 : w = 2
  · rw [if_pos c2]; omega
  · rw [if_neg c2]
    by_cases c5 : w = 5
    · rw [if_pos c5]; omega
    · rw [if_neg c5]
      by_cases c6 : w = 6
      · rw [if_pos c6]; omega
      · rw [if_neg c6]
        rcases (show w = 0 ∨ w = 1 ∨ w = 3 ∨ w = 4 by omega) with rfl | rfl | rfl | rfl
        · exact ⟨h2.1.1, by have := h2.1.2; show j_to a (5 * r.toNat) ≤ 99; omega⟩
        · exact ⟨h2.2.1.1, by have := h2.2.1.2; show j_to a (5 * r.toNat + 1) ≤ 99; omega⟩
        · exact ⟨h2.2.2.2.1.1, h2.2.2.2.1.2⟩
        · exact ⟨h2.2.2.2.2.1, by have := h2.2.2.2.2.2; show j_to a (5 * r.toNat + 4) ≤ 99; omega⟩
theorem m_room {g : x_G} {k : Nat} {Q : x_Q} {I L : Nat → Nat → Int} {lp tp : Nat} {a : q_A} (hP : q_JP a) (hM : q_JM I L a) {r w : Int} (hr : x_rg r) (hw : x_rg w) (q1 : (0 ≤ r ∧ r < (j_R a : Int)) ∧ (0 ≤ w ∧ w ≤ 6) → Q [x_i (q_rmv a r w)] (x_u I 179 0 0, L, lp, tp)) (q0 : ¬ ((0 ≤ r ∧ r < (j_R a : Int)) ∧ (0 ≤ w ∧ w ≤ 6)) → Q [x_i 0] (x_u I 179 0 1, L, lp, tp)) : x_X g (k + 2) 235 [x_r 179, x_i r, x_i w] (I, L, lp, tp) Q := by
  have hR := q_R8 hP
  have k1 := hM.2.1.1
  have k3 := hM.2.1.2.2.1
  have k9 := hM.2.1.2.2.2.2.2.2.2.1
  refine v_roomM (k := k) ?_
  rw [k1]
  refine ⟨hr, fun c => q0 (by omega), fun c => ⟨⟨by omega, by omega⟩, fun c1 => q0 (by omega), fun c1 => ⟨hw, fun c2 => ?_, fun c2 => q0 (by omega)⟩⟩⟩
  have q1 := q1 ⟨⟨c, c1⟩, c2⟩
  unfold q_rmv at q1
  have tr : ∀ v : Int, v = w → ¬ w = 2 → ¬ w = 5 → ¬ w = 6 → (0 ≤ 5 * r + v ∧ 5 * r + v < 40) ∧ Q [x_i (I 186 (5 * r + v).toNat)] (x_u I 179 0 0, L, lp, tp) := fun v hv n2 n5 n6 => by
    subst hv
    rw [if_neg n2, if_neg n5, if_neg n6] at q1
    rw [show (5 * r + v).toNat = 5 * r.toNat + v.toNat by omega, k3 _ (by omega)]
    exact ⟨⟨by omega, by omega⟩, q1⟩
  refine ⟨fun e => ⟨⟨by omega, by omega⟩, ?_⟩, fun e => tr w rfl (by omega) (by omega) (by omega), fun e => tr w rfl (by omega) (by omega) (by omega), fun e => ⟨⟨by omega, by omega⟩, ?_⟩, fun e => ⟨⟨by omega, by omega⟩, ?_⟩, fun e => tr w rfl e.1 e.2.2.2.1 e.2.2.2.2⟩
  · rw [if_pos e] at q1
    rw [k9 _ (by omega)]; exact q1
  · rw [if_neg (by omega), if_pos e] at q1
    rw [show (8 + r).toNat = 8 + r.toNat by omega, k9 _ (by omega)]; exact q1
  · rw [if_neg (by omega), if_neg (by omega), if_pos e] at q1
    rw [show (16 + r).toNat = 16 + r.toNat by omega, k9 _ (by omega)]; exact q1
theorem q_JM_L {I L L' : Nat → Nat → Int} {a : q_A} (h : q_JM I L a) (hl : ∀ k, L' 194 k = L 194 k) : q_JM I L' a := ⟨h.1, q_Km_L h.2.1 hl, h.2.2⟩
theorem whole_room {g : x_G} {k : Nat} {Q : x_Q} {CB SB : Nat}
    (H0 : ∀ (i : Int) (c s : Nat) (I L : Nat → Nat → Int) (lp tp : Nat) (a : q_A) (p0 p1 : Int), q_JP a → q_JC I lp a → x_rg p0 → x_rg p1 → c + 1 ≤ CB → s + 8 ≤ SB → ((0 ≤ p0 ∧ p0 < (j_R a : Int)) ∧ (0 ≤ p1 ∧ p1 ≤ 6) → x_SL g (k + 140 + 1) Q (c + 1) (s + 8) 163 [x_r 6000, x_r 1, x_r 179, x_r 203, x_i i, x_n, x_n] [x_i 0] (I, x_u L 203 0 (q_rmv a p0 p1), lp, tp)) → (¬ ((0 ≤ p0 ∧ p0 < (j_R a : Int)) ∧ (0 ≤ p1 ∧ p1 ≤ 6)) → x_SL g (k + 140 + 1) Q (c + 1) (s + 8) 163 [x_r 6000, x_r 1, x_r 179, x_r 203, x_i i, x_n, x_n] [x_i 1] (I, L, lp, tp)) → x_SL g (k + 140 + 1) Q c s 162 [x_r 6000, x_r 1, x_r 179, x_r 203, x_i i, x_n, x_n] [x_r 203, x_i p1, x_i p0, x_r 1] (I, L, lp, tp)) :
    ∀ (i : Int) (c s : Nat) (w : x_W), q_LI g w → 0 ≤ i → i + 6 ≤ (g.2.2 : Int) → c + 1 ≤ CB → s + 8 ≤ SB → (∀ w2, q_LI g w2 → x_SL g (k + 140 + 1) Q (c + 1) (s + 8) 13 [x_r 6000, x_r 1, x_r 179, x_r 203, x_i (i + 6), x_n, x_n] [] w2) → x_SL g (k + 140 + 1) Q c s 162 [x_r 6000, x_r 1, x_r 179, x_r 203, x_i i, x_n, x_n] [x_r 203, x_i (w.1 6000 (i + 2).toNat), x_i (w.1 6000 (i + 1).toNat), x_r 1] w := by
  intro i c s w hL h0 h6 hc hs nx
  obtain ⟨I, L, lp, tp⟩ := w
  obtain ⟨⟨a, hP, hC, hB, hM⟩, hI⟩ := hL
  dsimp only at hC hB hM hI ⊢
  have en : ((x_sh g.2.2 6000).2 : Int) = (g.2.2 : Int) := rfl
  have rg : ∀ j, x_rg (I 6000 j) := fun j => by rw [hI j]; exact x_i32rg _
  have b1 : 0 ≤ i + 1 ∧ i + 1 < ((x_sh g.2.2 6000).2 : Int) := by rw [en]; exact ⟨by omega, by omega⟩
  have b2 : 0 ≤ i + 2 ∧ i + 2 < ((x_sh g.2.2 6000).2 : Int) := by rw [en]; exact ⟨by omega, by omega⟩
  have bk : ∀ (L' : Nat → Nat → Int) (v : Int), (∀ k, L' 194 k = L 194 k) → q_LI g (x_u I 179 0 v, L', lp, tp) := fun L' v hl => by
    have f2 : x_fr [(179, 0, 1)] I (x_u I 179 0 v) := x_fr_u (x_fr_refl _ _) rfl
    refine ⟨q_J_end hP hC hB f2 (by decide +kernel) (by decide +kernel) (q_JM_L (q_JM_ag hP hM (q_agM_fr f2 (by decide +kernel)) (q_LM_S f2 (by decide) hM.2.1.2.2.2.1)) hl), fun j => ?_⟩
    show x_u I 179 0 v 6000 j = _
    rw [x_u_ne _ _ (by omega)]
    exact hI j
  refine H0 i c s I L lp tp a _ _ hP hC (rg _) (rg _) hc hs (fun hv => ?_) (fun hv => ?_)
  · have hv2 := q_rmv_rg hP hv.1 hv.2
    have M' : q_JM I (x_u L 203 0 (q_rmv a (I 6000 (i + 1).toNat) (I 6000 (i + 2).toNat))) a := q_JM_L hM (fun _ => x_u_ne _ _ (by omega))
    have l194 : ∀ k, x_u L 203 0 (q_rmv a (I 6000 (i + 1).toNat) (I 6000 (i + 2).toNat)) 194 k = L 194 k := fun _ => x_u_ne _ _ (by omega)
    refine v_whole_L163 (k := k + 140) ⟨b1, b2, ?_⟩
    refine x_le (show 2 ≤ k + 140 by omega) (m_room (k := 0) hP M' (rg _) (rg _) (fun _ => ⟨_, rfl, ?_⟩) (fun h => absurd hv h))
    refine x_le (show 1 ≤ k + 140 by omega) (v_thrown (k := 0) ⟨_, rfl, ?_⟩)
    have e0 : x_u I 179 0 0 179 0 = 0 := rfl
    have eL : x_u L 203 0 (q_rmv a (I 6000 (i + 1).toNat) (I 6000 (i + 2).toNat)) 203 0 = q_rmv a (I 6000 (i + 1).toNat) (I 6000 (i + 2).toNat) := x_u_same _ _ _ _
    dsimp only
    rw [e0, eL]
    have ec : x_cmp (q_rmv a (I 6000 (i + 1).toNat) (I 6000 (i + 2).toNat)) (q_rmv a (I 6000 (i + 1).toNat) (I 6000 (i + 2).toNat)) = 0 := by
      unfold x_cmp
      rw [if_neg (by omega), if_pos rfl]
    rw [ec]
    exact ⟨by decide, by decide, fun _ => ⟨fun h => absurd rfl h, fun _ => ⟨⟨by omega, by omega⟩, ⟨by omega, by omega⟩, by decide, fun _ => nx _ (bk _ 0 l194), fun h => absurd rfl h⟩⟩, fun h => absurd rfl h⟩
  · refine v_whole_L163 (k := k + 140) ⟨b1, b2, ?_⟩
    refine x_le (show 2 ≤ k + 140 by omega) (m_room (k := 0) hP hM (rg _) (rg _) (fun h => absurd h hv) (fun _ => ⟨_, rfl, ?_⟩))
    refine x_le (show 1 ≤ k + 140 by omega) (v_thrown (k := 0) ⟨_, rfl, ?_⟩)
    have e0 : x_u I 179 0 1 179 0 = 1 := rfl
    dsimp only
    rw [e0]
    exact ⟨by decide, by decide, fun _ => ⟨fun _ => nx _ (bk L 1 (fun _ => rfl)), fun h => absurd h (by decide)⟩, fun h => absurd rfl h⟩
