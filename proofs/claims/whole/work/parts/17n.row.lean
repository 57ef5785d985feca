/-! the situation read off a row; rows in range; the history of rows -/
def q_dnA (N : Nat → Int) : Nat → Nat → Nat
  | 0, _ => 0
  | m + 1, r => (if N (16 + r) = 1 then 1 else 0) + 2 * q_dnA N m (r + 1)
theorem q_dnA_lt (N : Nat → Int) : ∀ m r, q_dnA N m r < 2 ^ m
  | 0, _ => Nat.one_pos
  | m + 1, r => by
    have ih := q_dnA_lt N m (r + 1)
    unfold q_dnA
    rw [Nat.pow_succ]
    by_cases c : N (16 + r) = 1
    · rw [if_pos c]; omega
    · rw [if_neg c]; omega
theorem q_dnA_bit (N : Nat → Int) : ∀ m r i, i < m → (q_dnA N m r).testBit i = decide (N (16 + r + i) = 1)
  | 0, _, _ => fun h => absurd h (by omega)
  | m + 1, r, 0 => fun _ => by
    unfold q_dnA
    rw [Nat.testBit_zero]
    by_cases c : N (16 + r) = 1
    · rw [if_pos c, decide_eq_decide]
      exact ⟨fun _ => c, fun _ => by omega⟩
    · rw [if_neg c, decide_eq_decide]
      exact ⟨fun h => by omega, fun h => absurd h c⟩
  | m + 1, r, i + 1 => fun h => by
    have ih := q_dnA_bit N m (r + 1) i (by omega)
    unfold q_dnA
    rw [Nat.testBit_succ]
    have e : ((if N (16 + r) = 1 then 1 else 0) + 2 * q_dnA N m (r + 1)) / 2 = q_dnA N m (r + 1) := by
      by_cases c : N (16 + r) = 1
      · rw [if_pos c]; omega
      · rw [if_neg c]; omega
    rw [e, ih, show 16 + (r + 1) + i = 16 + r + (i + 1) by omega]
def q_dn (N : Nat → Int) : Nat := q_dnA N 8 0
theorem q_dn_lt (N : Nat → Int) : q_dn N < 256 := q_dnA_lt N 8 0
theorem q_dn_bit (N : Nat → Int) {r : Nat} (h : r < 8) : (q_dn N).testBit r = decide (N (16 + r) = 1) := q_dnA_bit N 8 0 r h
theorem q_dn_eq {N : Nat → Int} {d : Nat} (hd : d < 256) (h : ∀ r, r < 8 → N (16 + r) = if d.testBit r = true then 1 else 0) : d = q_dn N := by
  refine Nat.eq_of_testBit_eq (fun i => ?_)
  by_cases hi : i < 8
  · rw [q_dn_bit N hi, h i hi]
    cases d.testBit i
    · rfl
    · rfl
  · have h1 : 2 ^ 8 ≤ 2 ^ i := Nat.pow_le_pow_right (n := 2) (by decide) (by omega)
    have h2 := q_dn_lt N
    rw [Nat.testBit_lt_two_pow (by omega), Nat.testBit_lt_two_pow (by omega)]
def q_lw2 (FA : Nat → q_AV) (lh : Int) : Option q_F6 := if lh = -1 then none else some (q_F (FA lh.toNat))
def q_rd (RD : Nat → Nat → Int) (rh : Int) : Nat → Int := fun x => if rh = -1 then -1 else RD rh.toNat x
def q_zo (R : Nat) (ru to : Nat → Int) (lo : Option q_F6) (rd : Nat → Int) (N : Nat → Int) : q_Z := ((R, ru, to, lo, N 24, fun r => N r), rd, q_dn N, N 25, N 26)
def q_Nk (R : Nat) (N : Nat → Int) (D : Nat) : Prop := (∀ r, r < 8 → (0 ≤ N r ∧ N r ≤ 9) ∧ (0 ≤ N (8 + r) ∧ N (8 + r) ≤ 9) ∧ (N (16 + r) = 0 ∨ N (16 + r) = 1)) ∧ (∀ r, R ≤ r → r < 8 → N r = 0 ∧ N (16 + r) = 0) ∧ (R ≠ 0 → 1 ≤ N 24 ∧ N 24 ≤ 5) ∧ (0 ≤ N 25 ∧ N 25 ≤ 99) ∧ (0 ≤ N 26 ∧ N 26 ≤ 60) ∧ (0 ≤ N 27 ∧ N 27 ≤ 100 * (D : Int)) ∧ N 28 = (D : Int) ∧ D ≤ 9999 ∧ ∀ x, 30 ≤ x → x < 210 → 0 ≤ N x ∧ N x ≤ 3000
theorem q_zo_k {R : Nat} {ru to : Nat → Int} {lo : Option q_F6} {rd N : Nat → Int} {D : Nat} (hW : q_Wo R ru to) (hN : q_Nk R N D) (hr : ∀ x, x < 8 → -1 ≤ rd x ∧ rd x < 8) : q_Zk (q_zo R ru to lo rd N) := by
  have hR : R ≤ 8 := by rcases hW.1 with h | h <;> omega
  exact ⟨⟨hW, hN.2.2.1, fun r h => (hN.1 r (by have : r < R := h; omega)).1⟩, q_dn_lt N, hN.2.2.2.1, hN.2.2.2.2.1, hr⟩
theorem q_zn_k {z : q_Z} {R : Nat} {N : Nat → Int} {D : Nat} (hZ : q_Zk z) (eR : q_yR (q_zy z) = R) (hN : q_Nk R N D) (hD : D < 9999) (h29 : N 29 = ((min 60 D : Nat) : Int)) : q_Nk R (q_zn z N) (D + 1) := by
  obtain ⟨a1, a2, a3, a4, a5, a6, a7, a8, a9⟩ := hN
  obtain ⟨-, -, s1, s2, s3, s4, s5, s6, s7, s8, -⟩ := q_zs_ok hZ
  have s9 := q_zs_n (z := z)
  have e : ∀ x, q_zn z N x = q_nd R (q_sP (q_zs z)) (q_so (q_zs z)) (q_sq (q_zs z)) (q_sm (q_zs z)) N x := fun x => by rw [← eR]; rfl
  refine ⟨fun r hr => ⟨?_, ?_, ?_⟩, fun r h1 h2 => ⟨?_, ?_⟩, fun h => ?_, ?_, ?_, ?_, ?_, by omega, fun x h1 h2 => ?_⟩
  · rw [e]; unfold q_nd; rw [if_pos hr]; exact (a1 r hr).1
  · rw [e]; unfold q_nd
    rw [if_neg (show ¬ 8 + r < 8 by omega), if_pos (show 8 + r < 16 by omega)]
    have := (a1 r hr).2.1
    by_cases c : 8 + r - 8 < R
    · rw [if_pos c]
      by_cases c2 : 0 < q_sP (q_zs z) (8 + r - 8)
      · rw [if_pos c2]; omega
      · rw [if_neg c2]; omega
    · rw [if_neg c]; exact this
  · rw [e]; unfold q_nd
    rw [if_neg (show ¬ 16 + r < 8 by omega), if_neg (show ¬ 16 + r < 16 by omega), if_pos (show 16 + r < 24 by omega)]
    by_cases c : 16 + r - 16 < R
    · rw [if_pos c]; exact Or.inl rfl
    · rw [if_neg c]; exact (a1 r hr).2.2
  · rw [e]; unfold q_nd; rw [if_pos h2]; exact (a2 r h1 h2).1
  · rw [e]; unfold q_nd
    rw [if_neg (show ¬ 16 + r < 8 by omega), if_neg (show ¬ 16 + r < 16 by omega), if_pos (show 16 + r < 24 by omega), if_neg (show ¬ 16 + r - 16 < R by omega)]
    exact (a2 r h1 h2).2
  · exact a3 h
  · exact a4
  · exact a5
  · have e27 : q_zn z N 27 = N 27 + q_so (q_zs z) := rfl
    rw [e27]; omega
  · have e28 : q_zn z N 28 = N 28 + 1 := rfl
    rw [e28]; omega
  · rw [q_zn_tail z N x (by omega)]
    have hx := a9 x h1 h2
    by_cases c : N 29 = 60
    · rw [if_pos c, if_neg (show ¬ x = 29 by omega)]
      by_cases c1 : x < 207
      · rw [if_pos c1]; exact a9 (x + 3) (by omega) (by omega)
      · rw [if_neg c1]
        by_cases c2 : x = 207
        · rw [if_pos c2]; omega
        · rw [if_neg c2]
          by_cases c3 : x = 208
          · rw [if_pos c3]; omega
          · rw [if_neg c3]
            by_cases c4 : x = 209
            · rw [if_pos c4]; omega
            · rw [if_neg c4]; exact hx
    · rw [if_neg c, if_neg (show ¬ x = 29 by omega)]
      by_cases c2 : (x : Int) = 30 + 3 * N 29
      · rw [if_pos c2]; omega
      · rw [if_neg c2]
        by_cases c3 : (x : Int) = 30 + 3 * N 29 + 1
        · rw [if_pos c3]; omega
        · rw [if_neg c3]
          by_cases c4 : (x : Int) = 30 + 3 * N 29 + 2
          · rw [if_pos c4]; omega
          · rw [if_neg c4]; exact hx
theorem q_Nk_24 {R : Nat} {N : Nat → Int} {D : Nat} {v : Int} (h : q_Nk R N D) (hv : 1 ≤ v ∧ v ≤ 5) : q_Nk R (q_up N 24 v) D := by
  obtain ⟨a1, a2, a3, a4, a5, a6, a7, a8, a9⟩ := h
  exact ⟨fun r hr => by rw [q_up_ne (by omega), q_up_ne (by omega), q_up_ne (by omega)]; exact a1 r hr, fun r h1 h2 => by rw [q_up_ne (by omega), q_up_ne (by omega)]; exact a2 r h1 h2, fun _ => hv, a4, a5, a6, a7, a8, fun x h1 h2 => by rw [q_up_ne (by omega)]; exact a9 x h1 h2⟩
theorem q_Nk_25 {R : Nat} {N : Nat → Int} {D : Nat} {v : Int} (h : q_Nk R N D) (hv : 0 ≤ v ∧ v ≤ 99) : q_Nk R (q_up N 25 v) D := by
  obtain ⟨a1, a2, a3, a4, a5, a6, a7, a8, a9⟩ := h
  exact ⟨fun r hr => by rw [q_up_ne (by omega), q_up_ne (by omega), q_up_ne (by omega)]; exact a1 r hr, fun r h1 h2 => by rw [q_up_ne (by omega), q_up_ne (by omega)]; exact a2 r h1 h2, a3, hv, a5, a6, a7, a8, fun x h1 h2 => by rw [q_up_ne (by omega)]; exact a9 x h1 h2⟩
theorem q_Nk_26 {R : Nat} {N : Nat → Int} {D : Nat} {v : Int} (h : q_Nk R N D) (hv : 0 ≤ v ∧ v ≤ 60) : q_Nk R (q_up N 26 v) D := by
  obtain ⟨a1, a2, a3, a4, a5, a6, a7, a8, a9⟩ := h
  exact ⟨fun r hr => by rw [q_up_ne (by omega), q_up_ne (by omega), q_up_ne (by omega)]; exact a1 r hr, fun r h1 h2 => by rw [q_up_ne (by omega), q_up_ne (by omega)]; exact a2 r h1 h2, a3, a4, hv, a6, a7, a8, fun x h1 h2 => by rw [q_up_ne (by omega)]; exact a9 x h1 h2⟩
theorem q_Nk_w {R : Nat} {N : Nat → Int} {D a : Nat} {v : Int} (h : q_Nk R N D) (hR : R ≤ 8) (ha : a < R) (hv : 0 ≤ v ∧ v ≤ 9) : q_Nk R (q_up N a v) D := by
  obtain ⟨a1, a2, a3, a4, a5, a6, a7, a8, a9⟩ := h
  have e : ∀ x, 8 ≤ x → q_up N a v x = N x := fun x hx => q_up_ne (by omega)
  refine ⟨fun r hr => ⟨?_, ?_, ?_⟩, fun r h1 h2 => ⟨?_, ?_⟩, ?_, ?_, ?_, ?_, ?_, a8, fun x h1 h2 => ?_⟩
  · by_cases c : r = a
    · subst c; rw [q_up_at]; exact hv
    · rw [q_up_ne c]; exact (a1 r hr).1
  · rw [e _ (by omega)]; exact (a1 r hr).2.1
  · rw [e _ (by omega)]; exact (a1 r hr).2.2
  · rw [q_up_ne (by omega)]; exact (a2 r h1 h2).1
  · rw [e _ (by omega)]; exact (a2 r h1 h2).2
  · rw [e _ (by omega)]; exact a3
  · rw [e _ (by omega)]; exact a4
  · rw [e _ (by omega)]; exact a5
  · rw [e _ (by omega)]; exact a6
  · rw [e _ (by omega)]; exact a7
  · rw [e _ (by omega)]; exact a9 x h1 h2
theorem q_Nk_s {R : Nat} {N : Nat → Int} {D a : Nat} (h : q_Nk R N D) (hR : R ≤ 8) (ha : a < R) : q_Nk R (q_up N (16 + a) 1) D := by
  obtain ⟨a1, a2, a3, a4, a5, a6, a7, a8, a9⟩ := h
  have e : ∀ x, x < 16 ∨ 24 ≤ x → q_up N (16 + a) 1 x = N x := fun x hx => q_up_ne (by omega)
  refine ⟨fun r hr => ⟨?_, ?_, ?_⟩, fun r h1 h2 => ⟨?_, ?_⟩, ?_, ?_, ?_, ?_, ?_, a8, fun x h1 h2 => ?_⟩
  · rw [e _ (by omega)]; exact (a1 r hr).1
  · rw [e _ (by omega)]; exact (a1 r hr).2.1
  · by_cases c : r = a
    · subst c; rw [q_up_at]; exact Or.inr rfl
    · rw [q_up_ne (by omega)]; exact (a1 r hr).2.2
  · rw [e _ (by omega)]; exact (a2 r h1 h2).1
  · rw [q_up_ne (by omega)]; exact (a2 r h1 h2).2
  · rw [e _ (by omega)]; exact a3
  · rw [e _ (by omega)]; exact a4
  · rw [e _ (by omega)]; exact a5
  · rw [e _ (by omega)]; exact a6
  · rw [e _ (by omega)]; exact a7
  · rw [e _ (by omega)]; exact a9 x h1 h2
theorem q_Lr_up {lg N : Nat → Int} {D k : Nat} {v : Int} (h : q_Lr lg N D) (hk : k < 28) : q_Lr lg (q_up N k v) D := by
  obtain ⟨a1, a2, a3⟩ := h
  exact ⟨by rw [q_up_ne (by omega)]; exact a1, by rw [q_up_ne (by omega)]; exact a2, fun i w h1 h2 => by rw [q_up_ne (by omega)]; exact a3 i w h1 h2⟩
def q_Hk (R : Nat) (N : Nat → Int) (H : Nat → Nat → Int) (na : Nat) (lg : Nat → Int) : Prop := na ≤ 40 ∧ ∃ D : Nat → Nat, (∀ j, j < na → q_Nk R (H j) (D j) ∧ q_Lr lg (H j) (D j)) ∧ q_Nk R N (D na) ∧ q_Lr lg N (D na) ∧ ∀ j, j < na → D j ≤ D (j + 1) ∧ D (j + 1) ≤ D j + 1
theorem q_Hk_d {R : Nat} {N : Nat → Int} {H : Nat → Nat → Int} {na : Nat} {lg : Nat → Int} (h : q_Hk R N H na lg) : ∃ D, q_Nk R N D ∧ q_Lr lg N D := by
  obtain ⟨-, D, -, h2, h3, -⟩ := h
  exact ⟨_, h2, h3⟩
theorem q_dist {D : Nat → Nat} {na : Nat} (h : ∀ j, j < na → D j ≤ D (j + 1) ∧ D (j + 1) ≤ D j + 1) : ∀ m j, j + m = na → D j ≤ D na ∧ D na ≤ D j + m
  | 0, j, e => by rw [show j = na by omega]; omega
  | m + 1, j, e => by
    have h1 := q_dist h m (j + 1) (by omega)
    have h2 := h j (by omega)
    omega
theorem q_Hk_push {R : Nat} {N N2 : Nat → Int} {H : Nat → Nat → Int} {na D0 D2 : Nat} {lg lg2 : Nat → Int} (h : q_Hk R N H na lg) (hD : N 28 = (D0 : Int)) (h2 : q_Nk R N2 D2) (l2 : q_Lr lg2 N2 D2) (d1 : D0 ≤ D2) (d2 : D2 ≤ D0 + 1) (old : ∀ P Dj, q_Lr lg P Dj → Dj ≤ D0 → D0 ≤ Dj + 39 → q_Lr lg2 P Dj) : q_Hk R N2 (q_h1 H na N) (min 40 (na + 1)) lg2 := by
  obtain ⟨n40, D, hH, hN, hL, hd⟩ := h
  have e0 : D na = D0 := by have := hL.1; omega
  have ds := q_dist hd
  refine ⟨by omega, fun j => if j = min 40 (na + 1) then D2 else if na = 40 then D (j + 1) else D j, fun j hj => ?_, ?_, ?_, fun j hj => ?_⟩
  · dsimp only
    rw [if_neg (show ¬ j = min 40 (na + 1) by omega)]
    unfold q_h1
    by_cases c : na = 40
    · rw [show (if na = 40 then D (j + 1) else D j) = D (j + 1) from if_pos c]
      by_cases c1 : j = min na 39
      · rw [if_pos c1, show j + 1 = na by omega]
        exact ⟨hN, old _ _ hL (by omega) (by omega)⟩
      · rw [if_neg c1, if_pos c]
        have hh := hH (j + 1) (by omega)
        have dd := ds (na - (j + 1)) (j + 1) (by omega)
        exact ⟨hh.1, old _ _ hh.2 (by omega) (by omega)⟩
    · rw [show (if na = 40 then D (j + 1) else D j) = D j from if_neg c]
      by_cases c1 : j = min na 39
      · rw [if_pos c1, show j = na by omega]
        exact ⟨hN, old _ _ hL (by omega) (by omega)⟩
      · rw [if_neg c1, if_neg c]
        have hh := hH j (by omega)
        have dd := ds (na - j) j (by omega)
        exact ⟨hh.1, old _ _ hh.2 (by omega) (by omega)⟩
  · dsimp only; rw [if_pos rfl]; exact h2
  · dsimp only; rw [if_pos rfl]; exact l2
  · dsimp only
    rw [if_neg (show ¬ j = min 40 (na + 1) by omega)]
    by_cases c1 : j + 1 = min 40 (na + 1)
    · rw [if_pos c1]
      by_cases c : na = 40
      · rw [if_pos c, show j + 1 = na by omega]; omega
      · rw [if_neg c, show j = na by omega]; omega
    · rw [if_neg c1]
      by_cases c : na = 40
      · rw [if_pos c, if_pos c]; exact hd (j + 1) (by omega)
      · rw [if_neg c, if_neg c]; exact hd j (by omega)
theorem q_Hk_act {R : Nat} {N N2 : Nat → Int} {H : Nat → Nat → Int} {na : Nat} {lg : Nat → Int} (h : q_Hk R N H na lg) (h2 : ∀ D, q_Nk R N D → q_Nk R N2 D) (l2 : ∀ D, q_Lr lg N D → q_Lr lg N2 D) : q_Hk R N2 (q_h1 H na N) (min 40 (na + 1)) lg := by
  obtain ⟨D, hN, hL⟩ := q_Hk_d h
  exact q_Hk_push h hL.1 (h2 D hN) (l2 D hL) (Nat.le_refl _) (by omega) (fun _ _ h _ _ => h)
theorem q_Hk_day {R : Nat} {N N2 : Nat → Int} {H : Nat → Nat → Int} {na D : Nat} {lg : Nat → Int} {z : q_Z} (h : q_Hk R N H na lg) (hZ : q_Zk z) (eR : q_yR (q_zy z) = R) (hD : N 28 = (D : Int)) (hD1 : D < 9999) (h2 : q_Nk R N2 D) (l2 : q_Lr lg N2 D) : q_Hk R (q_zn z N2) (q_h1 H na N) (min 40 (na + 1)) (q_lgD z D lg) := q_Hk_push h hD (q_zn_k hZ eR h2 hD1 l2.2.1) (q_Lr_new l2) (by omega) (by omega) (fun _ _ h a b => q_Lr_old h a b)
theorem q_Hk_undo {R : Nat} {N : Nat → Int} {H : Nat → Nat → Int} {m : Nat} {lg : Nat → Int} (h : q_Hk R N H (m + 1) lg) : q_Hk R (H m) H m lg := by
  obtain ⟨n40, D, hH, hN, hL, hd⟩ := h
  exact ⟨by omega, D, fun j hj => hH j (by omega), (hH m (by omega)).1, (hH m (by omega)).2, fun j hj => hd j (by omega)⟩
