/-! undo, image, back, log -/
theorem q_c6_fr {I : Nat → Nat → Int} {s o : Nat} (h : o + 3 ≤ s ∨ s + 3 ≤ o) : x_fr [(o, 2, 8), (o + 1, 0, 8), (o + 2, 0, 8)] I (q_c6 I s o) := by
  intro a k hm
  have n1 : ¬ (a = o ∧ 2 ≤ k ∧ k < 8) := fun e => by rw [e.1, x_mem1 e.2] at hm; cases hm
  have n2 : ¬ (a = o + 1 ∧ k < 8) := fun e => by rw [e.1, x_mem2 (b := 0) (lo := 0) (hi := 0) (x_mem1 ⟨Nat.zero_le _, e.2⟩)] at hm; cases hm
  have n3 : ¬ (a = o + 2 ∧ k < 8) := fun e => by rw [e.1, x_mem2 (b := 0) (lo := 0) (hi := 0) (x_mem2 (b := 0) (lo := 0) (hi := 0) (x_mem1 ⟨Nat.zero_le _, e.2⟩))] at hm; cases hm
  unfold q_c6
  rw [x_u_ne _ _ (by omega), x_u_ne _ _ (by omega), x_u_ne _ _ (by omega), x_u_ne _ _ (by omega), x_u_ne _ _ (by omega), x_u_ne _ _ (by omega), x_cp_eq, if_neg (by omega), x_cp_eq, if_neg (by omega)]
abbrev q_fR1 : List (Nat × Nat × Nat) := [(18, 2, 8), (19, 0, 8), (20, 0, 8), (21, 4, 6), (161, 1, 2)]
theorem q_Ac_fr {I I' : Nat → Nat → Int} {H : Nat → Nat → Int} {na : Nat} (h : q_Ac I H na) (h4 : I' 21 4 = I 21 4) (h5 : I' 21 5 = I 21 5) (ha : ∀ a k, 28 ≤ a → a < 148 → I' a k = I a k) : q_Ac I' H na := by
  obtain ⟨nx, hx, e4, e5, hna, hH⟩ := h
  exact ⟨nx, hx, h4.trans e4, h5.trans e5, hna, fun j hj => q_St_eq (hH j hj) (fun k _ _ => ha _ _ (by unfold q_pl; omega) (by unfold q_pl; omega)) (fun k _ => ⟨ha _ _ (by unfold q_pl; omega) (by unfold q_pl; omega), ha _ _ (by unfold q_pl; omega) (by unfold q_pl; omega)⟩)⟩
theorem c_undo {g : x_G} {k : Nat} {Q : x_Q} {I L : Nat → Nat → Int} {lp tp na : Nat} {H : Nat → Nat → Int} (hA : q_Ac I H na) (q0 : na = 0 → Q [x_i (-1)] (I, L, lp, tp)) (q1 : ∀ m, na = m + 1 → ∀ I', x_fr q_fR1 I I' → I' 161 1 = 0 → q_St I' 18 (H m) → q_Ac I' H m → Q [x_i (m : Int)] (I', L, lp, tp)) : x_X g (k + 4) 140 [x_r 1] (I, L, lp, tp) Q := by
  obtain ⟨nx, hx, e4, e5, hna, hH⟩ := hA
  refine v_undo (k := k + 2) ?_
  rw [e5]
  refine ⟨⟨by omega, by omega⟩, fun c => ?_, fun c => q0 (by omega)⟩
  obtain ⟨m, rfl⟩ : ∃ m, na = m + 1 := ⟨na - 1, by omega⟩
  refine s_stepBack ⟨nx, hx, e4, e5, hna, hH⟩ (fun I' f' hS hA' => ⟨rfl, ?_⟩)
  dsimp only
  rw [show I' 21 5 = (m : Int) from by obtain ⟨_, _, _, h, _⟩ := hA'; exact h]
  exact q1 m rfl _ (x_fr_u (x_fr_mono f' rfl) rfl) rfl (q_St_eq hS (fun _ _ _ => rfl) (fun _ _ => ⟨rfl, rfl⟩)) (q_Ac_fr hA' rfl rfl (fun a k h1 h2 => x_u_ne _ _ (by omega)))
abbrev q_fI2 : List (Nat × Nat × Nat) := [(24, 2, 8), (25, 0, 8), (26, 0, 8), (27, 0, 300), (21, 6, 7)]
theorem c_image {g : x_G} {k : Nat} {Q : x_Q} {I L : Nat → Nat → Int} {lp tp R : Nat} {N : Nat → Int} (hR : R ≤ 8) (e3 : I 14 3 = (R : Int)) (hN : q_St I 18 N) (q0 : R = 0 → Q [x_i (-1)] (I, L, lp, tp)) (q1 : ¬ R = 0 → ∀ I', x_fr q_fI2 I I' → q_St I' 24 N → (∀ x, x < 300 → I' 27 x = I 23 x) → I' 21 6 = 1 → Q [x_i (N 28)] (I', L, lp, tp)) : x_X g (k + 4) 142 [x_r 1] (I, L, lp, tp) Q := by
  refine v_image (k := k + 2) ?_
  rw [e3]
  refine ⟨⟨by omega, by omega⟩, fun c => ?_, fun c => q0 (by omega)⟩
  refine v_keep (k := k + 1) (s_copy (Or.inr (Or.inl rfl)) (Or.inl rfl) ⟨rfl, rfl, ?_⟩)
  have f1 := q_c6_fr (I := I) (s := 18) (o := 24) (by omega)
  have hS := q_St_cp (o := 24) hN (by omega)
  dsimp only
  generalize hJ : q_c6 I 18 24 = J at *
  have ex : ∀ a k, x_cp J 23 27 0 0 300 a k = if a = 27 ∧ 0 ≤ k ∧ k < 0 + 300 then J 23 (0 + (k - 0)) else J a k := fun a k => x_cp_eq ..
  have e7 : x_u (x_cp J 23 27 0 0 300) 21 6 1 18 7 = N 28 := by
    rw [x_u_ne _ _ (by omega), ex, if_neg (by omega), f1 18 7 rfl]
    exact hN.2.2.2.2.2.2
  rw [e7]
  refine q1 (by omega) _ (x_fr_u (fun a k hm => ?_) rfl) (q_St_eq hS (fun k _ _ => ?_) (fun k _ => ⟨?_, ?_⟩)) (fun x hx => ?_) (x_u_same _ _ _ _)
  · have n : ¬ (a = 27 ∧ 0 ≤ k ∧ k < 0 + 300) := fun e => by rw [e.1, show x_mem q_fI2 27 k = true from x_mem2 (b := 0) (lo := 0) (hi := 0) (x_mem2 (b := 0) (lo := 0) (hi := 0) (x_mem2 (b := 0) (lo := 0) (hi := 0) (x_mem1 ⟨Nat.zero_le _, by omega⟩)))] at hm; cases hm
    rw [ex, if_neg n]
    exact x_fr_mono (T := q_fI2) f1 rfl a k hm
  · rw [x_u_ne _ _ (by omega), ex, if_neg (by omega)]
  · rw [x_u_ne _ _ (by omega), ex, if_neg (by omega)]
  · rw [x_u_ne _ _ (by omega), ex, if_neg (by omega)]
  · rw [x_u_ne _ _ (by omega), ex, if_pos ⟨rfl, by omega, by omega⟩, show 0 + (x - 0) = x by omega, f1 23 x rfl]
abbrev q_fI3 : List (Nat × Nat × Nat) := [(18, 2, 8), (19, 0, 8), (20, 0, 8), (23, 0, 300), (21, 5, 6), (161, 1, 2)]
theorem c_back {g : x_G} {k : Nat} {Q : x_Q} {I L : Nat → Nat → Int} {lp tp : Nat} {b : Int} (hb : I 21 6 = b) (hb1 : b = 0 ∨ b = 1) (q0 : b = 0 → Q [x_i (-1)] (I, L, lp, tp)) (q1 : b = 1 → ∀ I', x_fr q_fI3 I I' → (∀ N, q_St I 24 N → q_St I' 18 N) → (∀ x, x < 300 → I' 23 x = I 27 x) → I' 21 5 = 0 → I' 161 1 = 0 → Q [x_i (I 24 7)] (I', L, lp, tp)) : x_X g (k + 4) 143 [x_r 1] (I, L, lp, tp) Q := by
  refine v_back (k := k + 2) ?_
  rw [hb]
  refine ⟨⟨by omega, by omega⟩, fun c => ?_, fun c => q0 c⟩
  refine v_bringBack (k := k + 1) (s_copy (Or.inl rfl) (Or.inr (Or.inl rfl)) ⟨rfl, rfl, ?_⟩)
  have f1 := q_c6_fr (I := I) (s := 24) (o := 18) (by omega)
  have hS : ∀ N, q_St I 24 N → q_St (q_c6 I 24 18) 18 N := fun N hN => q_St_cp (o := 18) hN (by omega)
  have h7 : q_c6 I 24 18 18 7 = I 24 7 := (q_c6_eq (I := I) (s := 24) (o := 18) (by omega)).2.2 7 (by decide) (by decide)
  dsimp only
  generalize hJ : q_c6 I 24 18 = J at *
  have ex : ∀ a k, x_cp J 27 23 0 0 300 a k = if a = 23 ∧ 0 ≤ k ∧ k < 0 + 300 then J 27 (0 + (k - 0)) else J a k := fun a k => x_cp_eq ..
  have e7 : x_u (x_cp J 27 23 0 0 300) 21 5 0 18 7 = I 24 7 := by
    rw [x_u_ne _ _ (by omega), ex, if_neg (by omega), h7]
  rw [e7]
  refine q1 (by omega) _ (x_fr_u (x_fr_u (fun a k hm => ?_) rfl) rfl) (fun N hN => q_St_eq (hS N hN) (fun k _ _ => ?_) (fun k _ => ⟨?_, ?_⟩)) (fun x hx => ?_) ?_ (x_u_same _ _ _ _)
  · have n : ¬ (a = 23 ∧ 0 ≤ k ∧ k < 0 + 300) := fun e => by rw [e.1, show x_mem q_fI3 23 k = true from x_mem2 (b := 0) (lo := 0) (hi := 0) (x_mem2 (b := 0) (lo := 0) (hi := 0) (x_mem2 (b := 0) (lo := 0) (hi := 0) (x_mem1 ⟨Nat.zero_le _, by omega⟩)))] at hm; cases hm
    rw [ex, if_neg n]
    exact x_fr_mono (T := q_fI3) f1 rfl a k hm
  · rw [x_u_ne _ _ (by omega), x_u_ne _ _ (by omega), ex, if_neg (by omega)]
  · rw [x_u_ne _ _ (by omega), x_u_ne _ _ (by omega), ex, if_neg (by omega)]
  · rw [x_u_ne _ _ (by omega), x_u_ne _ _ (by omega), ex, if_neg (by omega)]
  · rw [x_u_ne _ _ (by omega), x_u_ne _ _ (by omega), ex, if_pos ⟨rfl, by omega, by omega⟩, show 0 + (x - 0) = x by omega, f1 27 x rfl]
  · rw [x_u_ne _ _ (by omega), x_u_same]
/-- the log of a row, as the class keeps it -/
def q_Lr (lg : Nat → Int) (N : Nat → Int) (D : Nat) : Prop := N 28 = (D : Int) ∧ N 29 = ((min 60 D : Nat) : Int) ∧ ∀ i w, i < min 60 D → w < 3 → lg (3 * ((D - 1 - i) % 100) + w) = N (30 + 3 * (min 60 D - 1 - i) + w)
def q_aLog (N : Nat → Int) (i w : Int) : Int := if (0 ≤ i ∧ i < N 29) ∧ (0 ≤ w ∧ w ≤ 2) then N (30 + 3 * (N 29 - 1 - i) + w).toNat else -1
theorem c_log {g : x_G} {k : Nat} {Q : x_Q} {I L : Nat → Nat → Int} {lp tp D : Nat} {N : Nat → Int} (hD : D ≤ 9999) (hN : q_St I 18 N) (hL : q_Lr (I 23) N D) {i w : Int} (hi : x_rg i) (hw : x_rg w) (hq : Q [x_i (q_aLog N i w)] (I, L, lp, tp)) : x_X g (k + 4) 141 [x_r 1, x_i i, x_i w] (I, L, lp, tp) Q := by
  obtain ⟨l1, l2, l3⟩ := hL
  have e7 : I 18 7 = (D : Int) := hN.2.2.2.2.2.2.trans l1
  unfold q_aLog at hq
  rw [l2] at hq
  have no : ¬ ((0 ≤ i ∧ i < ((min 60 D : Nat) : Int)) ∧ (0 ≤ w ∧ w ≤ 2)) → Q [x_i (-1)] (I, L, lp, tp) := fun h => by rw [if_neg h] at hq; exact hq
  refine v_log (k := k + 2) ?_
  rw [e7]
  refine ⟨hi, fun c => no (by omega), fun c1 => ⟨⟨by omega, by omega⟩, ⟨by omega, by omega⟩, fun c => no (by omega), fun c2 => ⟨hw, fun c => no (by omega), fun c3 => ⟨fun c4 => ?_, fun c => no (by omega)⟩⟩⟩⟩
  obtain ⟨a, rfl⟩ := Int.eq_ofNat_of_zero_le c1
  obtain ⟨b, rfl⟩ := Int.eq_ofNat_of_zero_le c3
  have l4 := l3 a b (by omega) (by omega)
  rw [if_pos (by omega), show (30 + 3 * (((min 60 D : Nat) : Int) - 1 - (a : Int)) + (b : Int)).toNat = 30 + 3 * (min 60 D - 1 - a) + b by omega, ← l4] at hq
  refine v_noted ?_
  rw [show (((D : Int) - 1 - (a : Int)) % 100 * 3 + (b : Int)).toNat = 3 * ((D - 1 - a) % 100) + b by omega]
  exact ⟨⟨by omega, by omega⟩, ⟨by omega, by omega⟩, _, rfl, hq⟩
theorem m_log {g : x_G} {k : Nat} {Q : x_Q} {I L : Nat → Nat → Int} {lp tp D : Nat} (hD : D ≤ 9999) (h29 : I 190 29 = ((min 60 D : Nat) : Int)) {i w : Int} (hi : x_rg i) (hw : x_rg w) (hq : Q [x_i (q_aLog (I 190) i w)] (x_u I 179 0 0, L, lp, tp)) : x_X g (k + 2) 251 [x_r 179, x_i i, x_i w] (I, L, lp, tp) Q := by
  unfold q_aLog at hq
  rw [h29] at hq
  have no : ¬ ((0 ≤ i ∧ i < ((min 60 D : Nat) : Int)) ∧ (0 ≤ w ∧ w ≤ 2)) → Q [x_i (-1)] (x_u I 179 0 0, L, lp, tp) := fun h => by rw [if_neg h] at hq; exact hq
  refine v_logM ?_
  rw [h29]
  refine ⟨hi, ⟨by omega, by omega⟩, fun c => ⟨hw, fun c1 => ?_, fun c1 => no (fun h => c1 h.2)⟩, fun c => no (fun h => c ⟨h.1.1, by omega⟩)⟩
  rw [if_pos ⟨⟨c.1, by omega⟩, c1⟩] at hq
  exact ⟨⟨by omega, by omega⟩, hq⟩
