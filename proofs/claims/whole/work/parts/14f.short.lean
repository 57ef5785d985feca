/-! shortest: pure -/
def q_rw (row : Int) (m : Nat) : Prop := 0 ≤ row ∧ (row + 1) * ((10 ^ m : Nat) : Int) ≤ 100000000
theorem q_rw_step {row : Int} {m r : Nat} (h : q_rw row (m + 1)) (hr : r < 8) : q_rw (10 * row + (r : Int)) m := by
  obtain ⟨h1, h2⟩ := h
  refine ⟨by omega, ?_⟩
  have hp : (0 : Int) ≤ ((10 ^ m : Nat) : Int) := Int.natCast_nonneg _
  have e : ((10 ^ (m + 1) : Nat) : Int) = 10 * ((10 ^ m : Nat) : Int) := by rw [Nat.pow_succ]; omega
  rw [e] at h2
  have := Int.mul_le_mul_of_nonneg_right (show 10 * row + (r : Int) + 1 ≤ 10 * row + 10 by omega) hp
  have e2 : (10 * row + 10) * ((10 ^ m : Nat) : Int) = (row + 1) * (10 * ((10 ^ m : Nat) : Int)) := by
    rw [show 10 * row + 10 = (row + 1) * 10 by omega, Int.mul_assoc]
  omega
theorem q_rw_le {row : Int} {m : Nat} (h : q_rw row m) : 0 ≤ row ∧ row ≤ 99999999 := by
  obtain ⟨h1, h2⟩ := h
  have hp : (1 : Int) ≤ ((10 ^ m : Nat) : Int) := by have := Nat.pow_pos (n := m) (show 0 < 10 by decide); omega
  have := Int.mul_le_mul_of_nonneg_left hp (show 0 ≤ row + 1 by omega)
  omega
def q_b1 (b : Int × Int) : Prop := -1 ≤ b.1 ∧ b.1 ≤ 99999999
theorem q_bs_row {y : q_Y} (hY : q_Yk y) : ∀ (m rem : Nat) (f h c n hot row : Int) (b : Int × Int), rem < 256 → (∀ r, rem.testBit r = true → r < q_yR y) → q_rw row m → q_b1 b → q_b1 (q_bs y m rem f h c n hot row b)
  | 0, rem, f, h, c, n, hot, row, b, hrem, hbit, hw, hb => by
    have := q_rw_le hw
    rw [q_bs]
    unfold q_b1 at hb ⊢
    split
    · dsimp only; omega
    · exact hb
  | m + 1, rem, f, h, c, n, hot, row, b, hrem, hbit, hw, hb => by
    have hR : q_yR y ≤ 8 := by rcases hY.1.1 with q | q <;> omega
    rw [q_bs]
    refine q_fd_inv q_b1 _ _ _ hb (fun r b h1 h2 hb => ?_)
    by_cases e : rem.testBit r = true
    · rw [if_pos e]
      refine q_bs_row hY m _ _ _ _ _ _ _ b (q_wo_lt rem r hrem) (fun x hx => ?_) (q_rw_step hw (by omega)) hb
      rw [q_wo_bit rem r x hrem (by omega)] at hx
      exact hbit x (by simp at hx; exact hx.1)
    · rw [if_neg e]; exact hb
theorem q_best_rg {z : q_Z} (hZ : q_Zk z) : q_b1 (q_best z) ∧ q_b2 (q_best z) := by
  have hR := q_ZR hZ
  have hp := q_pow8 hR
  have hbit : ∀ r, (2 ^ q_yR (q_zy z) - 1).testBit r = true → r < q_yR (q_zy z) := fun r hr => by rw [q_every_bit] at hr; simpa using hr
  refine ⟨q_bs_row hZ.1 _ _ _ _ _ _ _ _ _ (by omega) hbit ⟨by decide, ?_⟩ ⟨by decide, by decide⟩, q_bs_b2 hZ.1 _ _ _ _ _ _ _ _ _ (by omega) hbit hZ.2.2.2.1.1 (by decide) (by have := hZ.2.2.2.1.2; omega) ⟨by decide, by decide⟩⟩
  have : 10 ^ q_yR (q_zy z) ≤ 10 ^ 8 := Nat.pow_le_pow_right (by decide) hR
  show (0 + 1) * _ ≤ _
  omega
/-- all workers there have it hot -/
abbrev q_ah (y : q_Y) (r : Nat) (h c : Int) : Prop := q_ywk y r = 0 ∨ (q_ywk y r ≤ c ∧ q_yto y (5 * r + 3) ≤ h)
/-- all rows: (row, minutes); minutes 1000000: none -/
def q_ss (y : q_Y) : Nat → Nat → Int → Int → Int → Int → Int → Int → Int × Int → Int × Int
  | 0, _, _, _, _, _, _, _, b => b
  | m + 1, rem, f, t, h, c, n, row, b => q_fd (fun r b => if rem.testBit r = true ∧ q_ah y r (q_yht y h f r c n 0) c then (if m = 0 then (if t + q_ymi y f r < b.2 then (10 * row + (r : Int), t + q_ymi y f r) else b) else q_ss y m (q_wo rem r) (r : Int) (t + q_ymi y f r + q_yto y (5 * r + 4)) (q_yht y h f r c n 0) (c - q_ywk y r) (n + 1) (10 * row + (r : Int)) b) else b) (q_yR y) 0 b
theorem q_ss_late {y : q_Y} (hY : q_Yk y) : ∀ (m rem : Nat) (f t h c n row : Int) (b : Int × Int), rem < 256 → (∀ r, rem.testBit r = true → r < q_yR y) → (f = -1 ∨ (0 ≤ f ∧ f < (q_yR y : Int))) → b.2 ≤ t → q_ss y m rem f t h c n row b = b
  | 0, _, _, _, _, _, _, _, _, _, _, _, _ => rfl
  | m + 1, rem, f, t, h, c, n, row, b, hrem, hbit, hf, ht => by
    have hR : q_yR y ≤ 8 := by rcases hY.1.1 with q | q <;> omega
    rw [q_ss]
    refine q_fd_id _ _ (fun r h1 h2 => ?_)
    by_cases e : rem.testBit r = true ∧ q_ah y r (q_yht y h f r c n 0) c
    · rw [if_pos e]
      have hr := hbit r e.1
      obtain ⟨-, m1, m2⟩ := q_ymi_rg hY hf hr
      obtain ⟨-, -, t4, -⟩ := q_yto_rg hY hr
      by_cases e2 : m = 0
      · rw [if_pos e2, if_neg (by omega)]
      · rw [if_neg e2]
        refine q_ss_late hY m _ _ _ _ _ _ _ b (q_wo_lt rem r hrem) (fun x hx => ?_) (Or.inr ⟨by omega, by omega⟩) (by omega)
        rw [q_wo_bit rem r x hrem (by omega)] at hx
        exact hbit x (by simp at hx; exact hx.1)
    · rw [if_neg e]
theorem q_ss_hopeless {y : q_Y} (hY : q_Yk y) {x : Nat} : ∀ (m rem : Nat) (f t h c n row : Int) (b : Int × Int), q_pc rem = m → rem < 256 → (∀ r, rem.testBit r = true → r < q_yR y) → (f = -1 ∨ (0 ≤ f ∧ f < (q_yR y : Int))) → 0 ≤ h ∧ h ≤ 99 → 0 ≤ c → rem.testBit x = true → (b.2 ≤ t + q_ymi y f x ∨ ¬ q_ah y x (q_mH y f x h) c) → q_ss y m rem f t h c n row b = b
  | 0, _, _, _, _, _, _, _, _, _, _, _, _, _, _, _, _ => rfl
  | m + 1, rem, f, t, h, c, n, row, b, hpc, hrem, hbit, hf, hh, hc, hx, hl => by
    have hR : q_yR y ≤ 8 := by rcases hY.1.1 with q | q <;> omega
    have hxR := hbit x hx
    rw [q_ss]
    refine q_fd_id _ _ (fun r h1 h2 => ?_)
    by_cases e : rem.testBit r = true ∧ q_ah y r (q_yht y h f r c n 0) c
    · rw [if_pos e]
      have hr := hbit r e.1
      obtain ⟨-, m1, m2⟩ := q_ymi_rg hY hf hr
      obtain ⟨-, -, t4, wk, -⟩ := q_yto_rg hY hr
      have hqp := q_pc_wo hrem (show r < 8 by omega) e.1
      obtain ⟨l1, l2⟩ := q_mH_le hY (c := c) (n := n) hf hh hr hxR
      have hht : 0 ≤ q_yht y h f r c n 0 ∧ q_yht y h f r c n 0 ≤ h := q_ht_rg hh
      have bits : ∀ x, (q_wo rem r).testBit x = true → x < q_yR y := fun x hx => by
        rw [q_wo_bit rem r x hrem (by omega)] at hx
        exact hbit x (by simp at hx; exact hx.1)
      by_cases ex : r = x
      · subst ex
        have hle : b.2 ≤ t + q_ymi y f r := by
          rcases hl with h | h
          · exact h
          · have e2 := e.2
            unfold q_ah at h e2
            omega
        by_cases e2 : m = 0
        · rw [if_pos e2, if_neg (by omega)]
        · rw [if_neg e2]
          exact q_ss_late hY m _ _ _ _ _ _ _ b (q_wo_lt rem r hrem) bits (Or.inr ⟨by omega, by omega⟩) (by omega)
      · have hxb : (q_wo rem r).testBit x = true := by
          rw [q_wo_bit rem r x hrem (by omega), hx]
          simp [Ne.symm ex]
        have e2 : ¬ m = 0 := fun e2 => by
          have : q_wo rem r = 0 := (q_pc_0 (q_wo_lt rem r hrem)).mp (by omega)
          rw [this] at hxb; simp at hxb
        rw [if_neg e2]
        refine q_ss_hopeless hY m _ _ _ _ _ _ _ b (by omega) (q_wo_lt rem r hrem) bits (Or.inr ⟨by omega, by omega⟩) ⟨by omega, by omega⟩ ?_ hxb ?_
        · have := e.2; unfold q_ah at this; omega
        · rcases hl with h | h
          · have := q_trim hY hf hr hxR
            exact Or.inl (by omega)
          · right
            unfold q_ah at h ⊢
            omega
    · rw [if_neg e]
def q_b3 (b : Int × Int) : Prop := (b.1 = -1 ∧ b.2 = 1000000) ∨ ((0 ≤ b.1 ∧ b.1 ≤ 99999999) ∧ 0 ≤ b.2 ∧ b.2 ≤ 2000)
theorem q_ss_b3 {y : q_Y} (hY : q_Yk y) : ∀ (m rem : Nat) (f t h c n row : Int) (b : Int × Int), rem < 256 → (∀ r, rem.testBit r = true → r < q_yR y) → (f = -1 ∨ (0 ≤ f ∧ f < (q_yR y : Int))) → 0 ≤ t → t ≤ 150 * n → n + (m : Int) ≤ 8 → q_rw row m → q_b3 b → q_b3 (q_ss y m rem f t h c n row b)
  | 0, _, _, _, _, _, _, _, _, _, _, _, _, _, _, _, hb => hb
  | m + 1, rem, f, t, h, c, n, row, b, hrem, hbit, hf, ht0, ht, hn, hw, hb => by
    have hR : q_yR y ≤ 8 := by rcases hY.1.1 with q | q <;> omega
    rw [q_ss]
    refine q_fd_inv q_b3 _ _ _ hb (fun r b h1 h2 hb => ?_)
    by_cases e : rem.testBit r = true ∧ q_ah y r (q_yht y h f r c n 0) c
    · rw [if_pos e]
      have hr := hbit r e.1
      obtain ⟨-, m1, m2⟩ := q_ymi_rg hY hf hr
      obtain ⟨-, -, t4, wk, -⟩ := q_yto_rg hY hr
      have hw' := q_rw_step hw (show r < 8 by omega)
      by_cases e2 : m = 0
      · rw [if_pos e2]
        have := q_rw_le hw'
        split
        · unfold q_b3; dsimp only; omega
        · exact hb
      · rw [if_neg e2]
        refine q_ss_b3 hY m _ _ _ _ _ _ _ b (q_wo_lt rem r hrem) (fun x hx => ?_) (Or.inr ⟨by omega, by omega⟩) (by omega) (by omega) (by omega) hw' hb
        rw [q_wo_bit rem r x hrem (by omega)] at hx
        exact hbit x (by simp at hx; exact hx.1)
    · rw [if_neg e]; exact hb
