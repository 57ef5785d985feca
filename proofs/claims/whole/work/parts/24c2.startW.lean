/-! the world behind the constructors: what the list of deeds makes of it -/
theorem cr_w_far {b : am_W} {a : Nat} (ha : 204 ≤ a) : ∀ (l : cr_D), l.all cr_c1 = true → l.all cr_c2 = true → (cr_w b l).2.2.2.2.1 ≤ a → (cr_w b l).1 a = b.1 a ∧ (∀ k, (cr_w b l).2.1 a k = b.2.1 a k) ∧ (∀ k, (cr_w b l).2.2.1 a k = b.2.2.1 a k) ∧ ∀ k, (cr_w b l).2.2.2.1 a k = b.2.2.2.1 a k := by
  intro l
  induction l with
  | nil => intro _ _ _; exact ⟨rfl, fun _ => rfl, fun _ => rfl, fun _ => rfl⟩
  | cons e l ih =>
    intro h1 h2 hn
    obtain ⟨t, x, y, v⟩ := e
    rw [List.all_cons, Bool.and_eq_true] at h1 h2
    match t with
    | 0 =>
      have hn : (cr_w b l).2.2.2.2.1 + 1 ≤ a := hn
      obtain ⟨i1, i2, i3, i4⟩ := ih h1.2 h2.2 (by omega)
      have c : ¬ a = (cr_w b l).2.2.2.2.1 := by omega
      exact ⟨(if_neg c).trans i1, fun k => (if_neg c).trans (i2 k), fun k => (if_neg c).trans (i3 k), fun k => (if_neg c).trans (i4 k)⟩
    | 1 =>
      obtain ⟨i1, i2, i3, i4⟩ := ih h1.2 h2.2 hn
      have hx : (Nat.blt x 204 && (decide (v = 0) || cr_K0.any (fun p => Nat.beq p.1 x && Nat.beq p.2 y))) = true := h1.1
      rw [Bool.and_eq_true] at hx
      have hx : x < 204 := Nat.le_of_ble_eq_true hx.1
      exact ⟨i1, fun k => (if_neg (show ¬ a = x by omega)).trans (i2 k), i3, i4⟩
    | 2 =>
      obtain ⟨i1, i2, i3, i4⟩ := ih h1.2 h2.2 hn
      have hx : (Nat.blt x 204 && Nat.blt y 64) = true := h2.1
      rw [Bool.and_eq_true] at hx
      have hx : x < 204 := Nat.le_of_ble_eq_true hx.1
      exact ⟨i1, i2, i3, fun k => (if_neg (show ¬ a = x by omega)).trans (i4 k)⟩
    | 3 => exact ih h1.2 h2.2 hn
    | t + 4 =>
      have hn : (cr_w b l).2.2.2.2.1 + 5 ≤ a := hn
      obtain ⟨i1, i2, i3, i4⟩ := ih h1.2 h2.2 (by omega)
      obtain ⟨j1, j2, j3, j4⟩ := am_w5_old (Γ := ((fun _ => 0, fun _ _ => 0), fun _ => 0, 0, fun _ => .null, fun _ => (0, 0), fun _ _ => 0)) (w := cr_w b l) (a := a) (Or.inr hn)
      exact ⟨j1.trans i1, fun k => (j2 k).trans (i2 k), fun k => (j3 k).trans (i3 k), fun k => (j4 k).trans (i4 k)⟩
theorem cr_w_64 {n : Nat} {b : am_W} (hb : cr_b n b) {a k : Nat} (ha : a < 5000) (hk : 64 ≤ k) : ∀ (l : cr_D), l.all cr_c2 = true → (cr_w b l).2.2.2.1 a k = 0 := by
  intro l
  induction l with
  | nil => intro _; exact (hb.1 a ha).2.2.2 k
  | cons e l ih =>
    intro h2
    obtain ⟨t, x, y, v⟩ := e
    rw [List.all_cons, Bool.and_eq_true] at h2
    have i := ih h2.2
    match t with
    | 0 =>
      show (if a = (cr_w b l).2.2.2.2.1 then 0 else (cr_w b l).2.2.2.1 a k) = 0
      rw [i, ite_self]
    | 1 => exact i
    | 2 =>
      have hx : (Nat.blt x 204 && Nat.blt y 64) = true := h2.1
      rw [Bool.and_eq_true] at hx
      have hy : y < 64 := Nat.le_of_ble_eq_true hx.2
      show (if a = x then (if k = y then v.toNat else (cr_w b l).2.2.2.1 a k) else (cr_w b l).2.2.2.1 a k) = 0
      rw [if_neg (show ¬ k = y by omega), i, ite_self]
    | 3 => exact i
    | t + 4 =>
      show (am_w5 (cr_w b l)).2.2.2.1 a k = 0
      rw [am_w5_R, if_neg (show ¬ k < 4 by omega), i]
      simp only [ite_self]
theorem cr_w_R0 {n : Nat} {b : am_W} (hb : cr_b n b) {a k : Nat} (ha : a < 5000) (h0 : x_R 0 180 a k = 0) : ∀ (l : cr_D) (nx : Nat), cr_zr l nx = true → (cr_w b l).2.2.2.2.1 = nx → (cr_w b l).2.2.2.1 a k = 0 := by
  intro l
  induction l with
  | nil => intro nx _ _; exact (hb.1 a ha).2.2.2 k
  | cons e l ih =>
    intro nx h2 hn
    obtain ⟨t, x, y, v⟩ := e
    match t with
    | 0 =>
      have hn : (cr_w b l).2.2.2.2.1 + 1 = nx := hn
      show (if a = (cr_w b l).2.2.2.2.1 then 0 else (cr_w b l).2.2.2.1 a k) = 0
      rw [ih (nx - 1) h2 (by omega), ite_self]
    | 1 => exact ih nx h2 hn
    | 2 =>
      have h2 : ((Nat.beq v.toNat 0 || !Nat.beq (x_R 0 180 x y) 0) && cr_zr l nx) = true := h2
      rw [Bool.and_eq_true, Bool.or_eq_true] at h2
      have i := ih nx h2.2 hn
      show (if a = x then (if k = y then v.toNat else (cr_w b l).2.2.2.1 a k) else (cr_w b l).2.2.2.1 a k) = 0
      rw [i]
      by_cases c1 : a = x
      · by_cases c2 : k = y
        · rw [if_pos c1, if_pos c2]
          rcases h2.1 with g | g
          · exact am_beq g
          · rw [← c1, ← c2] at g
            exact absurd h0 (cr_beqf g)
        · rw [if_neg c2, ite_self]
      · rw [if_neg c1]
    | 3 => exact ih nx h2 hn
    | t + 4 =>
      have hn : (cr_w b l).2.2.2.2.1 + 5 = nx := hn
      have h2 : ((!Nat.beq (x_R 0 180 (nx - 5) 0) 0 && (!Nat.beq (x_R 0 180 (nx - 5) 1) 0 && (!Nat.beq (x_R 0 180 (nx - 5) 2) 0 && !Nat.beq (x_R 0 180 (nx - 5) 3) 0))) && cr_zr l (nx - 5)) = true := h2
      simp only [Bool.and_eq_true] at h2
      obtain ⟨⟨g0, g1, g2, g3⟩, h2⟩ := h2
      have i := ih (nx - 5) h2 (by omega)
      show (am_w5 (cr_w b l)).2.2.2.1 a k = 0
      rw [am_w5_R, i]
      by_cases c0 : a = (cr_w b l).2.2.2.2.1
      · have e5 : a = nx - 5 := by omega
        rw [if_pos c0]
        by_cases ck : k < 4
        · exfalso
          rw [← e5] at g0 g1 g2 g3
          rcases (show k = 0 ∨ k = 1 ∨ k = 2 ∨ k = 3 by omega) with e | e | e | e <;> rw [e] at h0
          · exact cr_beqf g0 h0
          · exact cr_beqf g1 h0
          · exact cr_beqf g2 h0
          · exact cr_beqf g3 h0
        · rw [if_neg ck]
      · rw [if_neg c0]
        simp only [ite_self]
theorem cr_w_I0 {n : Nat} {b : am_W} (hb : cr_b n b) {a k : Nat} (ha : a < 5000) (hk : cr_K0.any (fun p => Nat.beq p.1 a && Nat.beq p.2 k) = false) : ∀ (l : cr_D), l.all cr_c1 = true → (cr_w b l).2.1 a k = 0 := by
  intro l
  induction l with
  | nil => intro _; exact (hb.1 a ha).2.1 k
  | cons e l ih =>
    intro h1
    obtain ⟨t, x, y, v⟩ := e
    rw [List.all_cons, Bool.and_eq_true] at h1
    have i := ih h1.2
    match t with
    | 0 =>
      show (if a = (cr_w b l).2.2.2.2.1 then 0 else (cr_w b l).2.1 a k) = 0
      rw [i, ite_self]
    | 1 =>
      have hx : (Nat.blt x 204 && (decide (v = 0) || cr_K0.any (fun p => Nat.beq p.1 x && Nat.beq p.2 y))) = true := h1.1
      rw [Bool.and_eq_true, Bool.or_eq_true] at hx
      show (if a = x then (if k = y then Int32.ofInt v else (cr_w b l).2.1 a k) else (cr_w b l).2.1 a k) = 0
      rw [i]
      by_cases c1 : a = x
      · by_cases c2 : k = y
        · rw [if_pos c1, if_pos c2]
          rcases hx.2 with g | g
          · rw [of_decide_eq_true g]; rfl
          · rw [← c1, ← c2, hk] at g; cases g
        · rw [if_neg c2, ite_self]
      · rw [if_neg c1]
    | 2 => exact i
    | 3 => exact i
    | t + 4 =>
      show (am_w5 (cr_w b l)).2.1 a k = 0
      simp only [am_w5_I, i, ite_self]
theorem cr_w_Ik {n : Nat} {b : am_W} (hb : cr_b n b) {a k : Nat} (ha : a < 5000) : ∀ (l : cr_D) (nx : Nat), (cr_w b l).2.2.2.2.1 = nx → (cr_w b l).2.1 a k = Int32.ofInt (cr_I l nx a k) := by
  intro l
  induction l with
  | nil => intro nx _; exact (hb.1 a ha).2.1 k
  | cons e l ih =>
    intro nx hn
    obtain ⟨t, x, y, v⟩ := e
    match t with
    | 0 =>
      have hn : (cr_w b l).2.2.2.2.1 + 1 = nx := hn
      show (if a = (cr_w b l).2.2.2.2.1 then 0 else (cr_w b l).2.1 a k) = Int32.ofInt (bif Nat.beq (a + 1) nx then 0 else cr_I l (nx - 1) a k)
      by_cases c : a = (cr_w b l).2.2.2.2.1
      · rw [if_pos c, show Nat.beq (a + 1) nx = true by rw [← hn, c]; exact Nat.beq_refl _, cond_true]; rfl
      · rw [if_neg c, x_nbeq (show ¬ a + 1 = nx by omega), cond_false]
        exact ih _ (by omega)
    | 1 =>
      show (if a = x then (if k = y then Int32.ofInt v else (cr_w b l).2.1 a k) else (cr_w b l).2.1 a k) = Int32.ofInt (bif Nat.beq a x && Nat.beq k y then v else cr_I l nx a k)
      by_cases c : a = x
      · by_cases c2 : k = y
        · rw [if_pos c, if_pos c2, c, c2, Nat.beq_refl, Nat.beq_refl]; rfl
        · rw [if_pos c, if_neg c2, x_nbeq c2, Bool.and_false, cond_false]
          exact ih nx hn
      · rw [if_neg c, x_nbeq c, Bool.false_and, cond_false]
        exact ih nx hn
    | 2 => exact ih nx hn
    | 3 => exact ih nx hn
    | t + 4 =>
      have hn : (cr_w b l).2.2.2.2.1 + 5 = nx := hn
      show (am_w5 (cr_w b l)).2.1 a k = Int32.ofInt (bif Nat.ble (nx - 5) a && Nat.blt a nx then 0 else cr_I l (nx - 5) a k)
      rw [am_w5_I]
      by_cases c : nx - 5 ≤ a ∧ a < nx
      · rw [show (Nat.ble (nx - 5) a && Nat.blt a nx) = true by rw [Nat.ble_eq_true_of_le c.1, show Nat.blt a nx = true from Nat.ble_eq_true_of_le c.2]; rfl, cond_true]
        by_cases c4 : a = (cr_w b l).2.2.2.2.1 + 4
        · rw [if_pos c4]; rfl
        · rw [if_neg c4]
          by_cases c3 : a = (cr_w b l).2.2.2.2.1 + 3
          · rw [if_pos c3]; rfl
          · rw [if_neg c3]
            by_cases c2 : a = (cr_w b l).2.2.2.2.1 + 2
            · rw [if_pos c2]; rfl
            · rw [if_neg c2]
              by_cases c1 : a = (cr_w b l).2.2.2.2.1 + 1
              · rw [if_pos c1]; rfl
              · rw [if_neg c1, if_pos (by omega)]; rfl
      · have cf : (Nat.ble (nx - 5) a && Nat.blt a nx) = false := by
          rw [Bool.and_eq_false_iff]
          rcases Nat.lt_or_ge a (nx - 5) with h | h
          · exact Or.inl (Bool.eq_false_iff.mpr (fun e => absurd (Nat.le_of_ble_eq_true e) (by omega)))
          · exact Or.inr (Bool.eq_false_iff.mpr (fun e => absurd (Nat.le_of_ble_eq_true e) (by omega)))
        rw [cf, cond_false, if_neg (by omega), if_neg (by omega), if_neg (by omega), if_neg (by omega), if_neg (by omega)]
        exact ih _ (by omega)
theorem cr_w_L (g : x_G) (a k : Nat) : ∀ (l : cr_D), (cr_w (cr_b0 g) l).2.2.1 a k = 0 := by
  intro l
  induction l with
  | nil => rfl
  | cons e l i =>
    obtain ⟨t, x, y, v⟩ := e
    match t with
    | 0 =>
      show (if a = (cr_w (cr_b0 g) l).2.2.2.2.1 then 0 else (cr_w (cr_b0 g) l).2.2.1 a k) = 0
      rw [i, ite_self]
    | 1 => exact i
    | 2 => exact i
    | 3 => exact i
    | t + 4 =>
      show (am_w5 (cr_w (cr_b0 g) l)).2.2.1 a k = 0
      simp only [am_w5_L, i, ite_self]
theorem cr_r0_64 {a k : Nat} (hk : 64 ≤ k) (ha : a < 5000) : x_r0 a k = 0 := by
  have hb : ∀ n, n ≤ 63 → Nat.beq k n = false := fun n hn => x_nbeq (by omega)
  have h1 : Nat.ble 5100 a = false := Bool.eq_false_iff.mpr (fun e => absurd (Nat.le_of_ble_eq_true e) (by omega))
  have h2 : Nat.ble 5101 a = false := Bool.eq_false_iff.mpr (fun e => absurd (Nat.le_of_ble_eq_true e) (by omega))
  unfold x_r0
  simp only [hb, h1, h2, cond_false, Bool.cond_self, Nat.reduceLeDiff]
theorem cr_r0_mid {a k : Nat} (h1 : 204 ≤ a) (h2 : a < 5000) : x_r0 a k = 0 := by
  have hb : ∀ n, n ≤ 204 → Nat.ble n a = true := fun n hn => Nat.ble_eq_true_of_le (by omega)
  have hb2 : ∀ n, 5000 ≤ n → Nat.ble n a = false := fun n hn => Bool.eq_false_iff.mpr (fun e => absurd (Nat.le_of_ble_eq_true e) (by omega))
  have he : Nat.beq a 179 = false := x_nbeq (by omega)
  unfold x_r0
  simp only [hb, hb2, he, cond_true, cond_false, Nat.reduceLeDiff]
