/-! Letters among a string's -/
theorem sm_isAmong5100 {g : x_G} {k : Nat} {Q : x_Q} {I L : Nat → Nat → Int} {lp tp : Nat} {c : Int} (h : q_str I) (hc : x_rg c) (hq : Q [x_i (x_b (0 ≤ q_ix 5100 c))] (I, L, lp, tp)) : x_X g (k + 5) 189 [x_r 5100, x_i c] (I, L, lp, tp) Q := by
  have e0 : I 5200 0 = 121 := h.2.1
  refine v_isAmong5100 ?_
  refine v_isAmong5100_L2 ⟨h, by decide, fun q => absurd q (by decide), fun _ => ⟨by decide, ?_, hc, fun n0 => ?_, fun p0 => ?_⟩⟩
  · show x_rg (I 5200 0); rw [e0]; decide
  rotate_left
  · rw [show c = 121 from p0.symm.trans e0] at hq; exact hq
  replace n0 : ¬ (121 : Int) = c := fun e => n0 (e0.trans e)
  refine v_isAmong5100_L2 ⟨h, by decide, fun _ => ?_, fun q => absurd q (by decide)⟩
  have e : q_ix 5100 c = -1 := by unfold q_ix; rw [show q_strs 5100 = [121] from rfl]; simp only [q_ixl]; rw [if_neg (by omega)]
  rw [e] at hq; exact hq
theorem sm_isAmong5101 {g : x_G} {k : Nat} {Q : x_Q} {I L : Nat → Nat → Int} {lp tp : Nat} {c : Int} (h : q_str I) (hc : x_rg c) (hq : Q [x_i (x_b (0 ≤ q_ix 5101 c))] (I, L, lp, tp)) : x_X g (k + 5) 189 [x_r 5101, x_i c] (I, L, lp, tp) Q := by
  have e0 : I 5201 0 = 109 := h.2.2.1.1
  have e1 : I 5201 1 = 104 := h.2.2.1.2.1
  have e2 : I 5201 2 = 102 := h.2.2.1.2.2.1
  have e3 : I 5201 3 = 100 := h.2.2.1.2.2.2.1
  have e4 : I 5201 4 = 107 := h.2.2.1.2.2.2.2.1
  have e5 : I 5201 5 = 110 := h.2.2.1.2.2.2.2.2
  refine v_isAmong5101 ?_
  refine v_isAmong5101_L2 ⟨h, by decide, fun q => absurd q (by decide), fun _ => ⟨by decide, ?_, hc, fun n0 => ?_, fun p0 => ?_⟩⟩
  · show x_rg (I 5201 0); rw [e0]; decide
  rotate_left
  · rw [show c = 109 from p0.symm.trans e0] at hq; exact hq
  replace n0 : ¬ (109 : Int) = c := fun e => n0 (e0.trans e)
  refine v_isAmong5101_L2 ⟨h, by decide, fun q => absurd q (by decide), fun _ => ⟨by decide, ?_, hc, fun n1 => ?_, fun p1 => ?_⟩⟩
  · show x_rg (I 5201 1); rw [e1]; decide
  rotate_left
  · rw [show c = 104 from p1.symm.trans e1] at hq; exact hq
  replace n1 : ¬ (104 : Int) = c := fun e => n1 (e1.trans e)
  refine v_isAmong5101_L2 ⟨h, by decide, fun q => absurd q (by decide), fun _ => ⟨by decide, ?_, hc, fun n2 => ?_, fun p2 => ?_⟩⟩
  · show x_rg (I 5201 2); rw [e2]; decide
  rotate_left
  · rw [show c = 102 from p2.symm.trans e2] at hq; exact hq
  replace n2 : ¬ (102 : Int) = c := fun e => n2 (e2.trans e)
  refine v_isAmong5101_L2 ⟨h, by decide, fun q => absurd q (by decide), fun _ => ⟨by decide, ?_, hc, fun n3 => ?_, fun p3 => ?_⟩⟩
  · show x_rg (I 5201 3); rw [e3]; decide
  rotate_left
  · rw [show c = 100 from p3.symm.trans e3] at hq; exact hq
  replace n3 : ¬ (100 : Int) = c := fun e => n3 (e3.trans e)
  refine v_isAmong5101_L2 ⟨h, by decide, fun q => absurd q (by decide), fun _ => ⟨by decide, ?_, hc, fun n4 => ?_, fun p4 => ?_⟩⟩
  · show x_rg (I 5201 4); rw [e4]; decide
  rotate_left
  · rw [show c = 107 from p4.symm.trans e4] at hq; exact hq
  replace n4 : ¬ (107 : Int) = c := fun e => n4 (e4.trans e)
  refine v_isAmong5101_L2 ⟨h, by decide, fun q => absurd q (by decide), fun _ => ⟨by decide, ?_, hc, fun n5 => ?_, fun p5 => ?_⟩⟩
  · show x_rg (I 5201 5); rw [e5]; decide
  rotate_left
  · rw [show c = 110 from p5.symm.trans e5] at hq; exact hq
  replace n5 : ¬ (110 : Int) = c := fun e => n5 (e5.trans e)
  refine v_isAmong5101_L2 ⟨h, by decide, fun _ => ?_, fun q => absurd q (by decide)⟩
  have e : q_ix 5101 c = -1 := by unfold q_ix; rw [show q_strs 5101 = [109, 104, 102, 100, 107, 110] from rfl]; simp only [q_ixl]; rw [if_neg (by omega)]; rw [if_neg (by omega)]; rw [if_neg (by omega)]; rw [if_neg (by omega)]; rw [if_neg (by omega)]; rw [if_neg (by omega)]
  rw [e] at hq; exact hq
theorem s_ioc5101 {g : x_G} {k : Nat} {Q : x_Q} {I L : Nat → Nat → Int} {lp tp : Nat} {c : Int} (h : q_str I) (hc : 0 ≤ c ∧ c ≤ 255) (hq : Q [x_i (q_ix 5101 c)] (I, L, lp, tp)) : x_X g (k + 1) 298 [x_r 5201, x_i c, x_i 0, x_i 6] (I, L, lp, tp) Q := by
  have e0 : I 5201 0 = 109 := h.2.2.1.1
  have e1 : I 5201 1 = 104 := h.2.2.1.2.1
  have e2 : I 5201 2 = 102 := h.2.2.1.2.2.1
  have e3 : I 5201 3 = 100 := h.2.2.1.2.2.2.1
  have e4 : I 5201 4 = 107 := h.2.2.1.2.2.2.2.1
  have e5 : I 5201 5 = 110 := h.2.2.1.2.2.2.2.2
  have hm : Int.bmod c 256 = if c < 128 then c else c - 256 := by rw [Int.bmod_def]; omega
  have hr : x_rg (Int.bmod c 256) := by rw [hm]; split <;> exact ⟨by omega, by omega⟩
  refine v_ioc5101 ?_
  refine v_ioc5101_L5 ⟨by decide, by decide, fun q => absurd q (by decide), fun _ => ⟨by decide, ?_, hr, fun n0 => ?_, fun p0 => ?_⟩⟩
  · show x_rg (I 5201 0); rw [e0]; decide
  rotate_left
  · have p := e0.symm.trans p0; rw [hm] at p; rw [show c = 109 by omega] at hq; exact hq
  replace n0 : ¬ (109 : Int) = Int.bmod c 256 := fun e => n0 (e0.trans e)
  refine v_ioc5101_L5 ⟨by decide, by decide, fun q => absurd q (by decide), fun _ => ⟨by decide, ?_, hr, fun n1 => ?_, fun p1 => ?_⟩⟩
  · show x_rg (I 5201 1); rw [e1]; decide
  rotate_left
  · have p := e1.symm.trans p1; rw [hm] at p; rw [show c = 104 by omega] at hq; exact hq
  replace n1 : ¬ (104 : Int) = Int.bmod c 256 := fun e => n1 (e1.trans e)
  refine v_ioc5101_L5 ⟨by decide, by decide, fun q => absurd q (by decide), fun _ => ⟨by decide, ?_, hr, fun n2 => ?_, fun p2 => ?_⟩⟩
  · show x_rg (I 5201 2); rw [e2]; decide
  rotate_left
  · have p := e2.symm.trans p2; rw [hm] at p; rw [show c = 102 by omega] at hq; exact hq
  replace n2 : ¬ (102 : Int) = Int.bmod c 256 := fun e => n2 (e2.trans e)
  refine v_ioc5101_L5 ⟨by decide, by decide, fun q => absurd q (by decide), fun _ => ⟨by decide, ?_, hr, fun n3 => ?_, fun p3 => ?_⟩⟩
  · show x_rg (I 5201 3); rw [e3]; decide
  rotate_left
  · have p := e3.symm.trans p3; rw [hm] at p; rw [show c = 100 by omega] at hq; exact hq
  replace n3 : ¬ (100 : Int) = Int.bmod c 256 := fun e => n3 (e3.trans e)
  refine v_ioc5101_L5 ⟨by decide, by decide, fun q => absurd q (by decide), fun _ => ⟨by decide, ?_, hr, fun n4 => ?_, fun p4 => ?_⟩⟩
  · show x_rg (I 5201 4); rw [e4]; decide
  rotate_left
  · have p := e4.symm.trans p4; rw [hm] at p; rw [show c = 107 by omega] at hq; exact hq
  replace n4 : ¬ (107 : Int) = Int.bmod c 256 := fun e => n4 (e4.trans e)
  refine v_ioc5101_L5 ⟨by decide, by decide, fun q => absurd q (by decide), fun _ => ⟨by decide, ?_, hr, fun n5 => ?_, fun p5 => ?_⟩⟩
  · show x_rg (I 5201 5); rw [e5]; decide
  rotate_left
  · have p := e5.symm.trans p5; rw [hm] at p; rw [show c = 110 by omega] at hq; exact hq
  replace n5 : ¬ (110 : Int) = Int.bmod c 256 := fun e => n5 (e5.trans e)
  refine v_ioc5101_L5 ⟨by decide, by decide, fun _ => ?_, fun q => absurd q (by decide)⟩
  rw [hm] at n0 n1 n2 n3 n4 n5
  have e : q_ix 5101 c = -1 := by unfold q_ix; rw [show q_strs 5101 = [109, 104, 102, 100, 107, 110] from rfl]; simp only [q_ixl]; rw [if_neg (by omega)]; rw [if_neg (by omega)]; rw [if_neg (by omega)]; rw [if_neg (by omega)]; rw [if_neg (by omega)]; rw [if_neg (by omega)]
  rw [e] at hq; exact hq
theorem sm_indexOf5101 {g : x_G} {k : Nat} {Q : x_Q} {I L : Nat → Nat → Int} {lp tp : Nat} {c : Int} (h : q_str I) (hc : 0 ≤ c ∧ c < 65536) (hq : Q [x_i (q_ix 5101 c)] (I, L, lp, tp)) : x_X g (k + 5) 290 [x_r 5101, x_i c] (I, L, lp, tp) Q := by
  have ec : I 5101 1 = 0 := h.1.2.1
  have hb : 255 < c → q_ix 5101 c = -1 := fun q => by unfold q_ix; rw [show q_strs 5101 = [109, 104, 102, 100, 107, 110] from rfl]; simp only [q_ixl]; rw [if_neg (by omega)]; rw [if_neg (by omega)]; rw [if_neg (by omega)]; rw [if_neg (by omega)]; rw [if_neg (by omega)]; rw [if_neg (by omega)]
  refine v_io5101 (k := k + 1) ?_
  rw [ec]
  exact ⟨by decide, fun q => absurd rfl q, fun _ => ⟨h, ⟨by omega, by omega⟩, fun q => by omega, fun q => ⟨fun q2 => by rw [hb q2] at hq; exact hq, fun q2 => s_ioc5101 h ⟨q, q2⟩ ⟨_, rfl, hq⟩⟩⟩⟩
theorem sm_spotOf5102 {g : x_G} {k : Nat} {Q : x_Q} {I L : Nat → Nat → Int} {lp tp : Nat} {c : Int} (h : q_str I) (hc : x_rg c) (hq : Q [x_i (q_ix 5102 c)] (I, L, lp, tp)) : x_X g (k + 5) 212 [x_r 5102, x_i c] (I, L, lp, tp) Q := by
  have e0 : I 5202 0 = 104 := h.2.2.2.1.1
  have e1 : I 5202 1 = 99 := h.2.2.2.1.2.1
  have e2 : I 5202 2 = 112 := h.2.2.2.1.2.2.1
  have e3 : I 5202 3 = 107 := h.2.2.2.1.2.2.2
  refine v_spotOf5102 ?_
  refine v_spotOf5102_L2 ⟨h, by decide, fun q => absurd q (by decide), fun _ => ⟨by decide, ?_, hc, fun n0 => ?_, fun p0 => ?_⟩⟩
  · show x_rg (I 5202 0); rw [e0]; decide
  rotate_left
  · rw [show c = 104 from p0.symm.trans e0] at hq; exact hq
  replace n0 : ¬ (104 : Int) = c := fun e => n0 (e0.trans e)
  refine v_spotOf5102_L2 ⟨h, by decide, fun q => absurd q (by decide), fun _ => ⟨by decide, ?_, hc, fun n1 => ?_, fun p1 => ?_⟩⟩
  · show x_rg (I 5202 1); rw [e1]; decide
  rotate_left
  · rw [show c = 99 from p1.symm.trans e1] at hq; exact hq
  replace n1 : ¬ (99 : Int) = c := fun e => n1 (e1.trans e)
  refine v_spotOf5102_L2 ⟨h, by decide, fun q => absurd q (by decide), fun _ => ⟨by decide, ?_, hc, fun n2 => ?_, fun p2 => ?_⟩⟩
  · show x_rg (I 5202 2); rw [e2]; decide
  rotate_left
  · rw [show c = 112 from p2.symm.trans e2] at hq; exact hq
  replace n2 : ¬ (112 : Int) = c := fun e => n2 (e2.trans e)
  refine v_spotOf5102_L2 ⟨h, by decide, fun q => absurd q (by decide), fun _ => ⟨by decide, ?_, hc, fun n3 => ?_, fun p3 => ?_⟩⟩
  · show x_rg (I 5202 3); rw [e3]; decide
  rotate_left
  · rw [show c = 107 from p3.symm.trans e3] at hq; exact hq
  replace n3 : ¬ (107 : Int) = c := fun e => n3 (e3.trans e)
  refine v_spotOf5102_L2 ⟨h, by decide, fun _ => ?_, fun q => absurd q (by decide)⟩
  have e : q_ix 5102 c = -1 := by unfold q_ix; rw [show q_strs 5102 = [104, 99, 112, 107] from rfl]; simp only [q_ixl]; rw [if_neg (by omega)]; rw [if_neg (by omega)]; rw [if_neg (by omega)]; rw [if_neg (by omega)]
  rw [e] at hq; exact hq
theorem s_ioc5102 {g : x_G} {k : Nat} {Q : x_Q} {I L : Nat → Nat → Int} {lp tp : Nat} {c : Int} (h : q_str I) (hc : 0 ≤ c ∧ c ≤ 255) (hq : Q [x_i (q_ix 5102 c)] (I, L, lp, tp)) : x_X g (k + 1) 298 [x_r 5202, x_i c, x_i 0, x_i 4] (I, L, lp, tp) Q := by
  have e0 : I 5202 0 = 104 := h.2.2.2.1.1
  have e1 : I 5202 1 = 99 := h.2.2.2.1.2.1
  have e2 : I 5202 2 = 112 := h.2.2.2.1.2.2.1
  have e3 : I 5202 3 = 107 := h.2.2.2.1.2.2.2
  have hm : Int.bmod c 256 = if c < 128 then c else c - 256 := by rw [Int.bmod_def]; omega
  have hr : x_rg (Int.bmod c 256) := by rw [hm]; split <;> exact ⟨by omega, by omega⟩
  refine v_ioc5102 ?_
  refine v_ioc5102_L5 ⟨by decide, by decide, fun q => absurd q (by decide), fun _ => ⟨by decide, ?_, hr, fun n0 => ?_, fun p0 => ?_⟩⟩
  · show x_rg (I 5202 0); rw [e0]; decide
  rotate_left
  · have p := e0.symm.trans p0; rw [hm] at p; rw [show c = 104 by omega] at hq; exact hq
  replace n0 : ¬ (104 : Int) = Int.bmod c 256 := fun e => n0 (e0.trans e)
  refine v_ioc5102_L5 ⟨by decide, by decide, fun q => absurd q (by decide), fun _ => ⟨by decide, ?_, hr, fun n1 => ?_, fun p1 => ?_⟩⟩
  · show x_rg (I 5202 1); rw [e1]; decide
  rotate_left
  · have p := e1.symm.trans p1; rw [hm] at p; rw [show c = 99 by omega] at hq; exact hq
  replace n1 : ¬ (99 : Int) = Int.bmod c 256 := fun e => n1 (e1.trans e)
  refine v_ioc5102_L5 ⟨by decide, by decide, fun q => absurd q (by decide), fun _ => ⟨by decide, ?_, hr, fun n2 => ?_, fun p2 => ?_⟩⟩
  · show x_rg (I 5202 2); rw [e2]; decide
  rotate_left
  · have p := e2.symm.trans p2; rw [hm] at p; rw [show c = 112 by omega] at hq; exact hq
  replace n2 : ¬ (112 : Int) = Int.bmod c 256 := fun e => n2 (e2.trans e)
  refine v_ioc5102_L5 ⟨by decide, by decide, fun q => absurd q (by decide), fun _ => ⟨by decide, ?_, hr, fun n3 => ?_, fun p3 => ?_⟩⟩
  · show x_rg (I 5202 3); rw [e3]; decide
  rotate_left
  · have p := e3.symm.trans p3; rw [hm] at p; rw [show c = 107 by omega] at hq; exact hq
  replace n3 : ¬ (107 : Int) = Int.bmod c 256 := fun e => n3 (e3.trans e)
  refine v_ioc5102_L5 ⟨by decide, by decide, fun _ => ?_, fun q => absurd q (by decide)⟩
  rw [hm] at n0 n1 n2 n3
  have e : q_ix 5102 c = -1 := by unfold q_ix; rw [show q_strs 5102 = [104, 99, 112, 107] from rfl]; simp only [q_ixl]; rw [if_neg (by omega)]; rw [if_neg (by omega)]; rw [if_neg (by omega)]; rw [if_neg (by omega)]
  rw [e] at hq; exact hq
theorem sm_indexOf5102 {g : x_G} {k : Nat} {Q : x_Q} {I L : Nat → Nat → Int} {lp tp : Nat} {c : Int} (h : q_str I) (hc : 0 ≤ c ∧ c < 65536) (hq : Q [x_i (q_ix 5102 c)] (I, L, lp, tp)) : x_X g (k + 5) 290 [x_r 5102, x_i c] (I, L, lp, tp) Q := by
  have ec : I 5102 1 = 0 := h.1.2.2.1
  have hb : 255 < c → q_ix 5102 c = -1 := fun q => by unfold q_ix; rw [show q_strs 5102 = [104, 99, 112, 107] from rfl]; simp only [q_ixl]; rw [if_neg (by omega)]; rw [if_neg (by omega)]; rw [if_neg (by omega)]; rw [if_neg (by omega)]
  refine v_io5102 (k := k + 1) ?_
  rw [ec]
  exact ⟨by decide, fun q => absurd rfl q, fun _ => ⟨h, ⟨by omega, by omega⟩, fun q => by omega, fun q => ⟨fun q2 => by rw [hb q2] at hq; exact hq, fun q2 => s_ioc5102 h ⟨q, q2⟩ ⟨_, rfl, hq⟩⟩⟩⟩
theorem sm_spotOf5103 {g : x_G} {k : Nat} {Q : x_Q} {I L : Nat → Nat → Int} {lp tp : Nat} {c : Int} (h : q_str I) (hc : x_rg c) (hq : Q [x_i (q_ix 5103 c)] (I, L, lp, tp)) : x_X g (k + 5) 212 [x_r 5103, x_i c] (I, L, lp, tp) Q := by
  have e0 : I 5203 0 = 102 := h.2.2.2.2.1
  have e1 : I 5203 1 = 120 := h.2.2.2.2.2.1
  have e2 : I 5203 2 = 119 := h.2.2.2.2.2.2.1
  have e3 : I 5203 3 = 110 := h.2.2.2.2.2.2.2.1
  have e4 : I 5203 4 = 115 := h.2.2.2.2.2.2.2.2
  refine v_spotOf5103 ?_
  refine v_spotOf5103_L2 ⟨h, by decide, fun q => absurd q (by decide), fun _ => ⟨by decide, ?_, hc, fun n0 => ?_, fun p0 => ?_⟩⟩
  · show x_rg (I 5203 0); rw [e0]; decide
  rotate_left
  · rw [show c = 102 from p0.symm.trans e0] at hq; exact hq
  replace n0 : ¬ (102 : Int) = c := fun e => n0 (e0.trans e)
  refine v_spotOf5103_L2 ⟨h, by decide, fun q => absurd q (by decide), fun _ => ⟨by decide, ?_, hc, fun n1 => ?_, fun p1 => ?_⟩⟩
  · show x_rg (I 5203 1); rw [e1]; decide
  rotate_left
  · rw [show c = 120 from p1.symm.trans e1] at hq; exact hq
  replace n1 : ¬ (120 : Int) = c := fun e => n1 (e1.trans e)
  refine v_spotOf5103_L2 ⟨h, by decide, fun q => absurd q (by decide), fun _ => ⟨by decide, ?_, hc, fun n2 => ?_, fun p2 => ?_⟩⟩
  · show x_rg (I 5203 2); rw [e2]; decide
  rotate_left
  · rw [show c = 119 from p2.symm.trans e2] at hq; exact hq
  replace n2 : ¬ (119 : Int) = c := fun e => n2 (e2.trans e)
  refine v_spotOf5103_L2 ⟨h, by decide, fun q => absurd q (by decide), fun _ => ⟨by decide, ?_, hc, fun n3 => ?_, fun p3 => ?_⟩⟩
  · show x_rg (I 5203 3); rw [e3]; decide
  rotate_left
  · rw [show c = 110 from p3.symm.trans e3] at hq; exact hq
  replace n3 : ¬ (110 : Int) = c := fun e => n3 (e3.trans e)
  refine v_spotOf5103_L2 ⟨h, by decide, fun q => absurd q (by decide), fun _ => ⟨by decide, ?_, hc, fun n4 => ?_, fun p4 => ?_⟩⟩
  · show x_rg (I 5203 4); rw [e4]; decide
  rotate_left
  · rw [show c = 115 from p4.symm.trans e4] at hq; exact hq
  replace n4 : ¬ (115 : Int) = c := fun e => n4 (e4.trans e)
  refine v_spotOf5103_L2 ⟨h, by decide, fun _ => ?_, fun q => absurd q (by decide)⟩
  have e : q_ix 5103 c = -1 := by unfold q_ix; rw [show q_strs 5103 = [102, 120, 119, 110, 115] from rfl]; simp only [q_ixl]; rw [if_neg (by omega)]; rw [if_neg (by omega)]; rw [if_neg (by omega)]; rw [if_neg (by omega)]; rw [if_neg (by omega)]
  rw [e] at hq; exact hq
theorem s_ioc5103 {g : x_G} {k : Nat} {Q : x_Q} {I L : Nat → Nat → Int} {lp tp : Nat} {c : Int} (h : q_str I) (hc : 0 ≤ c ∧ c ≤ 255) (hq : Q [x_i (q_ix 5103 c)] (I, L, lp, tp)) : x_X g (k + 1) 298 [x_r 5203, x_i c, x_i 0, x_i 5] (I, L, lp, tp) Q := by
  have e0 : I 5203 0 = 102 := h.2.2.2.2.1
  have e1 : I 5203 1 = 120 := h.2.2.2.2.2.1
  have e2 : I 5203 2 = 119 := h.2.2.2.2.2.2.1
  have e3 : I 5203 3 = 110 := h.2.2.2.2.2.2.2.1
  have e4 : I 5203 4 = 115 := h.2.2.2.2.2.2.2.2
  have hm : Int.bmod c 256 = if c < 128 then c else c - 256 := by rw [Int.bmod_def]; omega
  have hr : x_rg (Int.bmod c 256) := by rw [hm]; split <;> exact ⟨by omega, by omega⟩
  refine v_ioc5103 ?_
  refine v_ioc5103_L5 ⟨by decide, by decide, fun q => absurd q (by decide), fun _ => ⟨by decide, ?_, hr, fun n0 => ?_, fun p0 => ?_⟩⟩
  · show x_rg (I 5203 0); rw [e0]; decide
  rotate_left
  · have p := e0.symm.trans p0; rw [hm] at p; rw [show c = 102 by omega] at hq; exact hq
  replace n0 : ¬ (102 : Int) = Int.bmod c 256 := fun e => n0 (e0.trans e)
  refine v_ioc5103_L5 ⟨by decide, by decide, fun q => absurd q (by decide), fun _ => ⟨by decide, ?_, hr, fun n1 => ?_, fun p1 => ?_⟩⟩
  · show x_rg (I 5203 1); rw [e1]; decide
  rotate_left
  · have p := e1.symm.trans p1; rw [hm] at p; rw [show c = 120 by omega] at hq; exact hq
  replace n1 : ¬ (120 : Int) = Int.bmod c 256 := fun e => n1 (e1.trans e)
  refine v_ioc5103_L5 ⟨by decide, by decide, fun q => absurd q (by decide), fun _ => ⟨by decide, ?_, hr, fun n2 => ?_, fun p2 => ?_⟩⟩
  · show x_rg (I 5203 2); rw [e2]; decide
  rotate_left
  · have p := e2.symm.trans p2; rw [hm] at p; rw [show c = 119 by omega] at hq; exact hq
  replace n2 : ¬ (119 : Int) = Int.bmod c 256 := fun e => n2 (e2.trans e)
  refine v_ioc5103_L5 ⟨by decide, by decide, fun q => absurd q (by decide), fun _ => ⟨by decide, ?_, hr, fun n3 => ?_, fun p3 => ?_⟩⟩
  · show x_rg (I 5203 3); rw [e3]; decide
  rotate_left
  · have p := e3.symm.trans p3; rw [hm] at p; rw [show c = 110 by omega] at hq; exact hq
  replace n3 : ¬ (110 : Int) = Int.bmod c 256 := fun e => n3 (e3.trans e)
  refine v_ioc5103_L5 ⟨by decide, by decide, fun q => absurd q (by decide), fun _ => ⟨by decide, ?_, hr, fun n4 => ?_, fun p4 => ?_⟩⟩
  · show x_rg (I 5203 4); rw [e4]; decide
  rotate_left
  · have p := e4.symm.trans p4; rw [hm] at p; rw [show c = 115 by omega] at hq; exact hq
  replace n4 : ¬ (115 : Int) = Int.bmod c 256 := fun e => n4 (e4.trans e)
  refine v_ioc5103_L5 ⟨by decide, by decide, fun _ => ?_, fun q => absurd q (by decide)⟩
  rw [hm] at n0 n1 n2 n3 n4
  have e : q_ix 5103 c = -1 := by unfold q_ix; rw [show q_strs 5103 = [102, 120, 119, 110, 115] from rfl]; simp only [q_ixl]; rw [if_neg (by omega)]; rw [if_neg (by omega)]; rw [if_neg (by omega)]; rw [if_neg (by omega)]; rw [if_neg (by omega)]
  rw [e] at hq; exact hq
theorem sm_indexOf5103 {g : x_G} {k : Nat} {Q : x_Q} {I L : Nat → Nat → Int} {lp tp : Nat} {c : Int} (h : q_str I) (hc : 0 ≤ c ∧ c < 65536) (hq : Q [x_i (q_ix 5103 c)] (I, L, lp, tp)) : x_X g (k + 5) 290 [x_r 5103, x_i c] (I, L, lp, tp) Q := by
  have ec : I 5103 1 = 0 := h.1.2.2.2
  have hb : 255 < c → q_ix 5103 c = -1 := fun q => by unfold q_ix; rw [show q_strs 5103 = [102, 120, 119, 110, 115] from rfl]; simp only [q_ixl]; rw [if_neg (by omega)]; rw [if_neg (by omega)]; rw [if_neg (by omega)]; rw [if_neg (by omega)]; rw [if_neg (by omega)]
  refine v_io5103 (k := k + 1) ?_
  rw [ec]
  exact ⟨by decide, fun q => absurd rfl q, fun _ => ⟨h, ⟨by omega, by omega⟩, fun q => by omega, fun q => ⟨fun q2 => by rw [hb q2] at hq; exact hq, fun q2 => s_ioc5103 h ⟨q, q2⟩ ⟨_, rfl, hq⟩⟩⟩⟩
