/-! feed, end -/
def q_fb (a b c d e : Int) : List Int := q_bl a 4 ++ q_bl b 4 ++ q_bl c 4 ++ q_bl d 4 ++ q_bl e 4
theorem s_feed {g : x_G} {k : Nat} {Q : x_Q} {I L : Nat → Nat → Int} {lp tp : Nat} {a b c d e : Int} {t : List Int} (ht : q_Tc I t) (h1 : 240 < t.length + (q_fb a b c d e).length → Q [x_i (-1)] (I, L, lp, tp)) (h2 : t.length + (q_fb a b c d e).length ≤ 240 → ∀ I', x_fr q_fT I I' → q_Tc I' (t ++ q_fb a b c d e) → Q [x_i (((t ++ q_fb a b c d e).length : Nat) : Int)] (I', L, lp, tp)) : x_X g (k + 3) 118 [x_r 1, x_i a, x_i b, x_i c, x_i d, x_i e] (I, L, lp, tp) Q := by
  have e1 := ht.1
  have e2 := ht.2.1
  have l1 := q_bl_len a 4
  have l2 := q_bl_len b 4
  have l3 := q_bl_len c 4
  have l4 := q_bl_len d 4
  have l5 := q_bl_len e 4
  have hl : (q_fb a b c d e).length = (q_bl a 4).length + (q_bl b 4).length + (q_bl c 4).length + (q_bl d 4).length + (q_bl e 4).length := by simp [q_fb]; omega
  refine v_feed (k := k + 1) (s_signs ⟨_, rfl, s_signs ⟨_, rfl, s_signs ⟨_, rfl, s_signs ⟨_, rfl, s_signs ⟨_, rfl, ?_⟩⟩⟩⟩⟩)
  dsimp only
  rw [e1]
  refine ⟨⟨by omega, by omega⟩, fun q => ?_, fun q => h1 (by omega)⟩
  refine s_put ht (by omega) fun I1 f1 t1 => ⟨rfl, s_put t1 (by rw [List.length_append]; omega) fun I2 f2 t2 => ⟨rfl, s_put t2 (by rw [List.length_append, List.length_append]; omega) fun I3 f3 t3 => ⟨rfl, s_put t3 (by rw [List.length_append, List.length_append, List.length_append]; omega) fun I4 f4 t4 => ⟨rfl, s_put t4 (by rw [List.length_append, List.length_append, List.length_append, List.length_append]; omega) fun I5 f5 t5 => ⟨rfl, ?_⟩⟩⟩⟩⟩
  dsimp only
  have e : t ++ q_bl a 4 ++ q_bl b 4 ++ q_bl c 4 ++ q_bl d 4 ++ q_bl e 4 = t ++ q_fb a b c d e := by simp [q_fb]
  rw [e] at t5
  rw [t5.1]
  exact h2 (by omega) I5 (x_fr_trans (x_fr_trans (x_fr_trans (x_fr_trans f1 f2) f3) f4) f5) t5
theorem q_Tm_eq {I I' : Nat → Nat → Int} {t : List Int} (h : q_Tm I t) (h6 : I' 179 6 = I 179 6) (h8 : ∀ k, I' 180 k = I 180 k) : q_Tm I' t := ⟨h6.trans h.1, h.2.1, fun k hk => (h8 k).trans (h.2.2.1 k hk), h.2.2.2⟩
theorem q_Tc_eq {I I' : Nat → Nat → Int} {t : List Int} (h : q_Tc I t) (h6 : I' 2 1 = I 2 1) (h8 : ∀ k, I' 3 k = I 3 k) : q_Tc I' t := ⟨h6.trans h.1, h.2.1, fun k hk => (h8 k).trans (h.2.2.1 k hk), h.2.2.2⟩
theorem s_feedM {g : x_G} {k : Nat} {Q : x_Q} {I L : Nat → Nat → Int} {lp tp : Nat} {a b c d e : Int} {t : List Int} (ha : x_rg a) (hb : x_rg b) (hc : x_rg c) (hd : x_rg d) (he : x_rg e) (ht : q_Tm I t) (h1 : 240 < t.length + (q_fb a b c d e).length → Q [x_i (-1)] (x_u I 179 0 0, L, lp, tp)) (h2 : t.length + (q_fb a b c d e).length ≤ 240 → ∀ I', x_fr ((179, 0, 1) :: q_fTm) I I' → q_Tm I' (t ++ q_fb a b c d e) → Q [x_i (((t ++ q_fb a b c d e).length : Nat) : Int)] (I', L, lp, tp)) : x_X g (k + 2) 192 [x_r 179, x_i a, x_i b, x_i c, x_i d, x_i e] (I, L, lp, tp) Q := by
  have e1 := ht.1
  have e2 := ht.2.1
  have l1 := q_bl_len a 4
  have l2 := q_bl_len b 4
  have l3 := q_bl_len c 4
  have l4 := q_bl_len d 4
  have l5 := q_bl_len e 4
  have hl : (q_fb a b c d e).length = (q_bl a 4).length + (q_bl b 4).length + (q_bl c 4).length + (q_bl d 4).length + (q_bl e 4).length := by simp [q_fb]; omega
  refine v_feedM (k := k + 1) (s_bytesIn ha ⟨_, rfl, s_bytesIn hb ⟨_, rfl, s_bytesIn hc ⟨_, rfl, s_bytesIn hd ⟨_, rfl, s_bytesIn he ⟨_, rfl, ?_⟩⟩⟩⟩⟩)
  rw [e1]
  have ht0 : q_Tm (x_u I 179 0 0) t := q_Tm_eq ht rfl (fun _ => rfl)
  refine ⟨⟨by omega, by omega⟩, fun q => ?_, fun q => h1 (by omega)⟩
  refine s_putM ha ht0 (by omega) fun I1 f1 t1 => ⟨rfl, s_putM hb t1 (by rw [List.length_append]; omega) fun I2 f2 t2 => ⟨rfl, s_putM hc t2 (by rw [List.length_append, List.length_append]; omega) fun I3 f3 t3 => ⟨rfl, s_putM hd t3 (by rw [List.length_append, List.length_append, List.length_append]; omega) fun I4 f4 t4 => ⟨rfl, s_putM he t4 (by rw [List.length_append, List.length_append, List.length_append, List.length_append]; omega) fun I5 f5 t5 => ⟨rfl, ?_⟩⟩⟩⟩⟩
  dsimp only
  have e : t ++ q_bl a 4 ++ q_bl b 4 ++ q_bl c 4 ++ q_bl d 4 ++ q_bl e 4 = t ++ q_fb a b c d e := by simp [q_fb]
  rw [e] at t5
  rw [t5.1]
  have f0 : x_fr ((179, 0, 1) :: q_fTm) I (x_u I 179 0 0) := x_fr_u (x_fr_refl _ _) rfl
  exact h2 (by omega) I5 (x_fr_trans f0 (x_fr_mono (x_fr_trans (x_fr_trans (x_fr_trans (x_fr_trans f1 f2) f3) f4) f5) rfl)) t5
theorem q_Tc_take {I : Nat → Nat → Int} {t : List Int} {n : Nat} (h : q_Tc I t) (hn : n ≤ t.length) : q_Tc (x_u I 2 1 (n : Int)) (t.take n) := by
  obtain ⟨h1, h2, h3, h4⟩ := h
  have e : (t.take n).length = n := by rw [List.length_take]; omega
  refine ⟨by rw [x_u_same, e], by omega, fun k hk => ?_, fun b hb => h4 b (List.mem_of_mem_take hb)⟩
  rw [e] at hk
  rw [x_u_ne _ _ (by omega), h3 k (by omega)]
  simp [List.getD, hk]
theorem q_Tm_take {I : Nat → Nat → Int} {t : List Int} {n : Nat} (h : q_Tm I t) (hn : n ≤ t.length) : q_Tm (x_u (x_u I 179 0 0) 179 6 (n : Int)) (t.take n) := by
  obtain ⟨h1, h2, h3, h4⟩ := h
  have e : (t.take n).length = n := by rw [List.length_take]; omega
  refine ⟨by rw [x_u_same, e], by omega, fun k hk => ?_, fun b hb => h4 b (List.mem_of_mem_take hb)⟩
  rw [e] at hk
  rw [x_u_ne _ _ (by omega), x_u_ne _ _ (by omega), h3 k (by omega)]
  simp [List.getD, hk]
theorem s_end {g : x_G} {k : Nat} {Q : x_Q} {I L : Nat → Nat → Int} {lp tp : Nat} {a : Int} {t : List Int} (ha : x_rg a) (ht : q_Tc I t) (h1 : ¬ (0 ≤ a ∧ a ≤ (t.length : Int)) → Q [x_i 0] (I, L, lp, tp)) (h2 : (0 ≤ a ∧ a ≤ (t.length : Int)) → ∀ I', x_fr [(2, 1, 2)] I I' → q_Tc I' (t.take a.toNat) → Q [x_i 1] (I', L, lp, tp)) : x_X g (k + 2) 119 [x_r 1, x_i a] (I, L, lp, tp) Q := by
  have e1 := ht.1
  have e2 := ht.2.1
  refine v_end ⟨ha, fun q => h1 (by omega), fun q => ⟨⟨by omega, by omega⟩, fun q2 => ?_, fun q2 => h1 (by omega)⟩⟩
  obtain ⟨n, rfl⟩ := Int.eq_ofNat_of_zero_le q
  exact h2 ⟨q, by omega⟩ _ (x_fr_u (x_fr_refl _ _) rfl) (q_Tc_take ht (by omega))
theorem s_endM {g : x_G} {k : Nat} {Q : x_Q} {I L : Nat → Nat → Int} {lp tp : Nat} {a : Int} {t : List Int} (ha : x_rg a) (ht : q_Tm I t) (h1 : ¬ (0 ≤ a ∧ a ≤ (t.length : Int)) → Q [x_i 0] (x_u I 179 0 0, L, lp, tp)) (h2 : (0 ≤ a ∧ a ≤ (t.length : Int)) → ∀ I', x_fr [(179, 0, 1), (179, 6, 7)] I I' → q_Tm I' (t.take a.toNat) → Q [x_i 1] (I', L, lp, tp)) : x_X g (k + 1) 193 [x_r 179, x_i a] (I, L, lp, tp) Q := by
  have e1 := ht.1
  have e2 := ht.2.1
  refine v_endM ⟨ha, fun q => h1 (by omega), fun q => ⟨⟨by omega, by omega⟩, fun q2 => ?_, fun q2 => h1 (by omega)⟩⟩
  obtain ⟨n, rfl⟩ := Int.eq_ofNat_of_zero_le q
  exact h2 ⟨q, by omega⟩ _ (x_fr_u (x_fr_u (x_fr_refl _ _) rfl) rfl) (q_Tm_take ht (by omega))
