/-! Numbers, strings -/
theorem s_nv_L {g : x_G} {k : Nat} {Q : x_Q} {I L : Nat → Nat → Int} {lp tp i m : Nat} (h0 : q_tk0 I) (hm : ((i + m : Nat) : Int) ≤ I 2 1) (hq : Q [x_i (q_nv (I 3) i m)] (I, L, lp, tp)) : ∀ (f j : Nat), m - j = f → j ≤ m → x_S g (k + 2) 102 Q 4 [x_r 2, x_i (i : Int), x_i (m : Int), x_i (q_nv (I 3) i j), x_i (j : Int)] [] (I, L, lp, tp)
  | 0, j, hf, hj => by
    obtain ⟨h1, h2, h3⟩ := h0
    refine v_number_L4 ⟨⟨by omega, by omega⟩, ⟨by omega, by omega⟩, fun c => ?_, fun c => by omega⟩
    rw [show j = m by omega]; exact hq
  | f + 1, j, hf, hj => by
    have h0' := h0
    obtain ⟨h1, h2, h3⟩ := h0
    refine v_number_L4 ⟨⟨by omega, by omega⟩, ⟨by omega, by omega⟩, fun c => by omega, fun c => ⟨h0', ⟨by omega, by omega⟩, ?_⟩⟩
    have e : q_at I ((i : Int) + (j : Int)) = I 3 (i + j) := by
      unfold q_at
      rw [if_pos (by omega), show ((i : Int) + (j : Int)).toNat = i + j by omega]
    rw [e]
    exact s_nv_L h0' hm hq f (j + 1) (by omega) (by omega)
theorem sm_nv {g : x_G} {k : Nat} {Q : x_Q} {I L : Nat → Nat → Int} {lp tp : Nat} {i m : Int} (h0 : q_tk0 I) (hi : 0 ≤ i ∧ i ≤ 1000) (hm : 0 ≤ m ∧ i + m ≤ I 2 1) (hq : Q [x_i (q_nvI I i m)] (I, L, lp, tp)) : x_X g (k + 2) 102 [x_r 2, x_i i, x_i m] (I, L, lp, tp) Q := by
  obtain ⟨a, rfl⟩ := Int.eq_ofNat_of_zero_le hi.1
  obtain ⟨b, rfl⟩ := Int.eq_ofNat_of_zero_le hm.1
  exact v_number (s_nv_L h0 (by omega) hq _ 0 rfl (Nat.zero_le _))
def q_str (I : Nat → Nat → Int) : Prop := (I 5100 1 = 0 ∧ I 5101 1 = 0 ∧ I 5102 1 = 0 ∧ I 5103 1 = 0) ∧ I 5200 0 = 121 ∧ (I 5201 0 = 109 ∧ I 5201 1 = 104 ∧ I 5201 2 = 102 ∧ I 5201 3 = 100 ∧ I 5201 4 = 107 ∧ I 5201 5 = 110) ∧ (I 5202 0 = 104 ∧ I 5202 1 = 99 ∧ I 5202 2 = 112 ∧ I 5202 3 = 107) ∧ (I 5203 0 = 102 ∧ I 5203 1 = 120 ∧ I 5203 2 = 119 ∧ I 5203 3 = 110 ∧ I 5203 4 = 115)
theorem q_shr0 (z : Int) (hz : x_rg z) : x_shr z 0 = z := by
  have := q_shr z 0 hz (by decide)
  rw [show ((0 : Nat) : Int) = 0 from rfl] at this
  rw [this]
  simp
theorem sm_slen5100 {g : x_G} {k : Nat} {Q : x_Q} {I L : Nat → Nat → Int} {lp tp : Nat} (h : q_str I) (hq : Q [x_i 1] (I, L, lp, tp)) : x_X g (k + 2) 288 [x_r 5100] (I, L, lp, tp) Q := by
  have e : I 5100 1 = 0 := h.1.1
  refine v_slen5100 ?_
  rw [e]
  refine ⟨⟨by decide, by decide⟩, ?_⟩
  rw [q_shr0 _ (by decide)]
  exact hq
theorem sm_charAt5100 {g : x_G} {k : Nat} {Q : x_Q} {I L : Nat → Nat → Int} {lp tp : Nat} {i : Int} (h : q_str I) (hi : 0 ≤ i ∧ i < 1) (hq : Q [x_i (I 5200 i.toNat)] (I, L, lp, tp)) : x_X g (k + 4) 289 [x_r 5100, x_i i] (I, L, lp, tp) Q := by
  have e : I 5100 1 = 0 := h.1.1
  have hb : 0 ≤ I 5200 i.toNat ∧ I 5200 i.toNat < 256 := by
    have hj : i = 0 := by omega
    rcases hj with rfl
    · rw [show I 5200 ((0 : Int)).toNat = 121 from h.2.1]; decide
  refine v_charAt5100 ?_
  rw [e]
  have e2 : x_and (I 5200 i.toNat) 255 % 65536 = I 5200 i.toNat := by rw [q_and255]; omega
  rw [e2]
  exact ⟨by decide, fun c => absurd rfl c, fun _ => ⟨⟨by omega, by omega⟩, fun c => by omega, fun c => ⟨fun c2 => ⟨hi, ⟨by omega, by omega⟩, hq⟩, fun c2 => by omega⟩⟩⟩
theorem sm_slen5101 {g : x_G} {k : Nat} {Q : x_Q} {I L : Nat → Nat → Int} {lp tp : Nat} (h : q_str I) (hq : Q [x_i 6] (I, L, lp, tp)) : x_X g (k + 2) 288 [x_r 5101] (I, L, lp, tp) Q := by
  have e : I 5101 1 = 0 := h.1.2.1
  refine v_slen5101 ?_
  rw [e]
  refine ⟨⟨by decide, by decide⟩, ?_⟩
  rw [q_shr0 _ (by decide)]
  exact hq
theorem sm_charAt5101 {g : x_G} {k : Nat} {Q : x_Q} {I L : Nat → Nat → Int} {lp tp : Nat} {i : Int} (h : q_str I) (hi : 0 ≤ i ∧ i < 6) (hq : Q [x_i (I 5201 i.toNat)] (I, L, lp, tp)) : x_X g (k + 4) 289 [x_r 5101, x_i i] (I, L, lp, tp) Q := by
  have e : I 5101 1 = 0 := h.1.2.1
  have hb : 0 ≤ I 5201 i.toNat ∧ I 5201 i.toNat < 256 := by
    have hj : i = 0 ∨ i = 1 ∨ i = 2 ∨ i = 3 ∨ i = 4 ∨ i = 5 := by omega
    rcases hj with rfl | rfl | rfl | rfl | rfl | rfl
    · rw [show I 5201 ((0 : Int)).toNat = 109 from h.2.2.1.1]; decide
    · rw [show I 5201 ((1 : Int)).toNat = 104 from h.2.2.1.2.1]; decide
    · rw [show I 5201 ((2 : Int)).toNat = 102 from h.2.2.1.2.2.1]; decide
    · rw [show I 5201 ((3 : Int)).toNat = 100 from h.2.2.1.2.2.2.1]; decide
    · rw [show I 5201 ((4 : Int)).toNat = 107 from h.2.2.1.2.2.2.2.1]; decide
    · rw [show I 5201 ((5 : Int)).toNat = 110 from h.2.2.1.2.2.2.2.2]; decide
  refine v_charAt5101 ?_
  rw [e]
  have e2 : x_and (I 5201 i.toNat) 255 % 65536 = I 5201 i.toNat := by rw [q_and255]; omega
  rw [e2]
  exact ⟨by decide, fun c => absurd rfl c, fun _ => ⟨⟨by omega, by omega⟩, fun c => by omega, fun c => ⟨fun c2 => ⟨hi, ⟨by omega, by omega⟩, hq⟩, fun c2 => by omega⟩⟩⟩
theorem sm_slen5102 {g : x_G} {k : Nat} {Q : x_Q} {I L : Nat → Nat → Int} {lp tp : Nat} (h : q_str I) (hq : Q [x_i 4] (I, L, lp, tp)) : x_X g (k + 2) 288 [x_r 5102] (I, L, lp, tp) Q := by
  have e : I 5102 1 = 0 := h.1.2.2.1
  refine v_slen5102 ?_
  rw [e]
  refine ⟨⟨by decide, by decide⟩, ?_⟩
  rw [q_shr0 _ (by decide)]
  exact hq
theorem sm_charAt5102 {g : x_G} {k : Nat} {Q : x_Q} {I L : Nat → Nat → Int} {lp tp : Nat} {i : Int} (h : q_str I) (hi : 0 ≤ i ∧ i < 4) (hq : Q [x_i (I 5202 i.toNat)] (I, L, lp, tp)) : x_X g (k + 4) 289 [x_r 5102, x_i i] (I, L, lp, tp) Q := by
  have e : I 5102 1 = 0 := h.1.2.2.1
  have hb : 0 ≤ I 5202 i.toNat ∧ I 5202 i.toNat < 256 := by
    have hj : i = 0 ∨ i = 1 ∨ i = 2 ∨ i = 3 := by omega
    rcases hj with rfl | rfl | rfl | rfl
    · rw [show I 5202 ((0 : Int)).toNat = 104 from h.2.2.2.1.1]; decide
    · rw [show I 5202 ((1 : Int)).toNat = 99 from h.2.2.2.1.2.1]; decide
    · rw [show I 5202 ((2 : Int)).toNat = 112 from h.2.2.2.1.2.2.1]; decide
    · rw [show I 5202 ((3 : Int)).toNat = 107 from h.2.2.2.1.2.2.2]; decide
  refine v_charAt5102 ?_
  rw [e]
  have e2 : x_and (I 5202 i.toNat) 255 % 65536 = I 5202 i.toNat := by rw [q_and255]; omega
  rw [e2]
  exact ⟨by decide, fun c => absurd rfl c, fun _ => ⟨⟨by omega, by omega⟩, fun c => by omega, fun c => ⟨fun c2 => ⟨hi, ⟨by omega, by omega⟩, hq⟩, fun c2 => by omega⟩⟩⟩
theorem sm_slen5103 {g : x_G} {k : Nat} {Q : x_Q} {I L : Nat → Nat → Int} {lp tp : Nat} (h : q_str I) (hq : Q [x_i 5] (I, L, lp, tp)) : x_X g (k + 2) 288 [x_r 5103] (I, L, lp, tp) Q := by
  have e : I 5103 1 = 0 := h.1.2.2.2
  refine v_slen5103 ?_
  rw [e]
  refine ⟨⟨by decide, by decide⟩, ?_⟩
  rw [q_shr0 _ (by decide)]
  exact hq
theorem sm_charAt5103 {g : x_G} {k : Nat} {Q : x_Q} {I L : Nat → Nat → Int} {lp tp : Nat} {i : Int} (h : q_str I) (hi : 0 ≤ i ∧ i < 5) (hq : Q [x_i (I 5203 i.toNat)] (I, L, lp, tp)) : x_X g (k + 4) 289 [x_r 5103, x_i i] (I, L, lp, tp) Q := by
  have e : I 5103 1 = 0 := h.1.2.2.2
  have hb : 0 ≤ I 5203 i.toNat ∧ I 5203 i.toNat < 256 := by
    have hj : i = 0 ∨ i = 1 ∨ i = 2 ∨ i = 3 ∨ i = 4 := by omega
    rcases hj with rfl | rfl | rfl | rfl | rfl
    · rw [show I 5203 ((0 : Int)).toNat = 102 from h.2.2.2.2.1]; decide
    · rw [show I 5203 ((1 : Int)).toNat = 120 from h.2.2.2.2.2.1]; decide
    · rw [show I 5203 ((2 : Int)).toNat = 119 from h.2.2.2.2.2.2.1]; decide
    · rw [show I 5203 ((3 : Int)).toNat = 110 from h.2.2.2.2.2.2.2.1]; decide
    · rw [show I 5203 ((4 : Int)).toNat = 115 from h.2.2.2.2.2.2.2.2]; decide
  refine v_charAt5103 ?_
  rw [e]
  have e2 : x_and (I 5203 i.toNat) 255 % 65536 = I 5203 i.toNat := by rw [q_and255]; omega
  rw [e2]
  exact ⟨by decide, fun c => absurd rfl c, fun _ => ⟨⟨by omega, by omega⟩, fun c => by omega, fun c => ⟨fun c2 => ⟨hi, ⟨by omega, by omega⟩, hq⟩, fun c2 => by omega⟩⟩⟩
