/-! best: pure -/
def q_bce (n : Int) : Int := (x_and (((x_and (((x_and (n - (x_and (x_ush n 1) 1431655765)) 858993459) + (x_and (x_ush (n - (x_and (x_ush n 1) 1431655765)) 2) 858993459)) + (x_ush ((x_and (n - (x_and (x_ush n 1) 1431655765)) 858993459) + (x_and (x_ush (n - (x_and (x_ush n 1) 1431655765)) 2) 858993459)) 4)) 252645135) + (x_ush (x_and (((x_and (n - (x_and (x_ush n 1) 1431655765)) 858993459) + (x_and (x_ush (n - (x_and (x_ush n 1) 1431655765)) 2) 858993459)) + (x_ush ((x_and (n - (x_and (x_ush n 1) 1431655765)) 858993459) + (x_and (x_ush (n - (x_and (x_ush n 1) 1431655765)) 2) 858993459)) 4)) 252645135) 8)) + (x_ush ((x_and (((x_and (n - (x_and (x_ush n 1) 1431655765)) 858993459) + (x_and (x_ush (n - (x_and (x_ush n 1) 1431655765)) 2) 858993459)) + (x_ush ((x_and (n - (x_and (x_ush n 1) 1431655765)) 858993459) + (x_and (x_ush (n - (x_and (x_ush n 1) 1431655765)) 2) 858993459)) 4)) 252645135) + (x_ush (x_and (((x_and (n - (x_and (x_ush n 1) 1431655765)) 858993459) + (x_and (x_ush (n - (x_and (x_ush n 1) 1431655765)) 2) 858993459)) + (x_ush ((x_and (n - (x_and (x_ush n 1) 1431655765)) 858993459) + (x_and (x_ush (n - (x_and (x_ush n 1) 1431655765)) 2) 858993459)) 4)) 252645135) 8)) 16)) 63)
def q_pc (n : Nat) : Nat := (n.testBit 0).toNat + (n.testBit 1).toNat + (n.testBit 2).toNat + (n.testBit 3).toNat + (n.testBit 4).toNat + (n.testBit 5).toNat + (n.testBit 6).toNat + (n.testBit 7).toNat
theorem q_bce_pc {n : Nat} (hn : n < 256) : q_bce (n : Int) = ((q_pc n : Nat) : Int) := by
  have : ∀ n : Fin 256, q_bce ((n.val : Nat) : Int) = ((q_pc n.val : Nat) : Int) := by decide +kernel
  exact this ⟨n, hn⟩
theorem s_bitCount {g : x_G} {k : Nat} {Q : x_Q} {I L : Nat → Nat → Int} {lp tp n : Nat} (hn : n < 256) (hq : Q [x_i ((q_pc n : Nat) : Int)] (I, L, lp, tp)) : x_X g (k + 1) 287 [x_i (n : Int)] (I, L, lp, tp) Q := by
  refine v_bitCount ?_
  show Q [x_i (q_bce (n : Int))] _
  rw [q_bce_pc hn]
  exact hq
theorem q_pc_wo {n r : Nat} (hn : n < 256) (hr : r < 8) (hb : n.testBit r = true) : q_pc n = q_pc (q_wo n r) + 1 := by
  have : ∀ n : Fin 256, ∀ r : Fin 8, n.val.testBit r.val = true → q_pc n.val = q_pc (q_wo n.val r.val) + 1 := by decide +kernel
  exact this ⟨n, hn⟩ ⟨r, hr⟩ hb
theorem q_pc_0 {n : Nat} (hn : n < 256) : q_pc n = 0 ↔ n = 0 := by
  have : ∀ n : Fin 256, q_pc n.val = 0 ↔ n.val = 0 := by decide +kernel
  exact this ⟨n, hn⟩
theorem q_pc_8 (n : Nat) : q_pc n ≤ 8 := by
  unfold q_pc
  have : ∀ b : Bool, b.toNat ≤ 1 := by decide
  have h0 := this (n.testBit 0)
  have h1 := this (n.testBit 1)
  have h2 := this (n.testBit 2)
  have h3 := this (n.testBit 3)
  have h4 := this (n.testBit 4)
  have h5 := this (n.testBit 5)
  have h6 := this (n.testBit 6)
  have h7 := this (n.testBit 7)
  omega
theorem q_pc_every {R : Nat} (hR : R ≤ 8) : q_pc (2 ^ R - 1) = R := by
  have : ∀ R : Fin 9, q_pc (2 ^ R.val - 1) = R.val := by decide +kernel
  exact this ⟨R, by omega⟩
/-- a loop over rooms -/
def q_fd {β : Type} (F : Nat → β → β) : Nat → Nat → β → β
  | 0, _, b => b
  | k + 1, i, b => q_fd F k (i + 1) (F i b)
theorem q_fd_id {β : Type} {F : Nat → β → β} {b : β} : ∀ k i, (∀ r, i ≤ r → r < i + k → F r b = b) → q_fd F k i b = b
  | 0, _, _ => rfl
  | k + 1, i, h => by rw [q_fd, h i (by omega) (by omega)]; exact q_fd_id k (i + 1) (fun r h1 h2 => h r (by omega) (by omega))
theorem q_fd_inv {β : Type} {F : Nat → β → β} (P : β → Prop) : ∀ k i b, P b → (∀ r b, i ≤ r → r < i + k → P b → P (F r b)) → P (q_fd F k i b)
  | 0, _, _, h, _ => h
  | k + 1, i, b, h, hF => by rw [q_fd]; exact q_fd_inv P k (i + 1) _ (hF i b (by omega) (by omega) h) (fun r b h1 h2 => hF r b (by omega) (by omega))
def q_ho (y : q_Y) (h f : Int) (r : Nat) (c n : Int) : Int := if q_yto y (5 * r + 3) ≤ q_yht y h f r c n 0 then q_po y c r else 0
/-- all rows of the rooms that remain: (row, hot) -/
def q_bs (y : q_Y) : Nat → Nat → Int → Int → Int → Int → Int → Int → Int × Int → Int × Int
  | 0, _, _, _, _, _, hot, row, b => if b.2 < hot then (row, hot) else b
  | m + 1, rem, f, h, c, n, hot, row, b => q_fd (fun r b => if rem.testBit r = true then q_bs y m (q_wo rem r) (r : Int) (q_yht y h f r c n 0) (c - q_po y c r) (n + 1) (hot + q_ho y h f r c n) (10 * row + (r : Int)) b else b) (q_yR y) 0 b
/-- no row brings more heat there -/
def q_mH (y : q_Y) (f : Int) (r : Nat) (h : Int) : Int := match q_ylo y with
  | none => max 0 (h - q_ymi y f r * q_yru y 1)
  | some _ => h
def q_mh (y : q_Y) (rem : Nat) (f h : Int) : Nat → Nat → Int
  | 0, _ => 0
  | m + 1, i => (if rem.testBit i = true ∧ q_yto y (5 * i + 3) ≤ q_mH y f i h then q_ywk y i else 0) + q_mh y rem f h m (i + 1)
theorem q_tri {y : q_Y} (hY : q_Yk y) {f : Int} (hf : f = -1 ∨ (0 ≤ f ∧ f < (q_yR y : Int))) {r x : Nat} (hr : r < q_yR y) (hx : x < q_yR y) : q_yst y f x ≤ q_yst y f r + q_yst y (r : Int) x := by
  obtain ⟨⟨a1, a2⟩, ⟨a3, a4⟩, -⟩ := hY.1.2.2 r hr
  obtain ⟨⟨b1, b2⟩, ⟨b3, b4⟩, -⟩ := hY.1.2.2 x hx
  have key : ∀ fl fa : Int, 0 ≤ fa → q_sd fl fa (q_yto y) x ≤ q_sd fl fa (q_yto y) r + q_sd (q_yto y (5 * r)) (q_yto y (5 * r + 1)) (q_yto y) x := by
    intro fl fa h0
    unfold q_sd q_ab
    repeat' split
    all_goals omega
  have e : q_yst y (r : Int) x = q_sd (q_yto y (5 * r)) (q_yto y (5 * r + 1)) (q_yto y) x := by
    unfold q_yst q_st
    rw [if_neg (by omega)]; rfl
  rw [e]
  unfold q_yst q_st
  by_cases h : f = -1
  · rw [if_pos h, if_pos h]; exact key 0 0 (by decide)
  · rw [if_neg h, if_neg h]
    obtain ⟨-, ⟨c3, -⟩, -⟩ := hY.1.2.2 f.toNat (by omega)
    exact key _ _ c3
theorem q_trim {y : q_Y} (hY : q_Yk y) {f : Int} (hf : f = -1 ∨ (0 ≤ f ∧ f < (q_yR y : Int))) {r x : Nat} (hr : r < q_yR y) (hx : x < q_yR y) : q_ymi y f x ≤ q_ymi y f r + q_ymi y (r : Int) x := by
  have := q_tri hY hf hr hx
  have hp := hY.2.1 (by omega)
  unfold q_ymi
  rw [← Int.add_mul]
  exact Int.mul_le_mul_of_nonneg_right this (by omega)
theorem q_mH_le {y : q_Y} (hY : q_Yk y) {f h c n : Int} (hf : f = -1 ∨ (0 ≤ f ∧ f < (q_yR y : Int))) (hh : 0 ≤ h ∧ h ≤ 99) {r x : Nat} (hr : r < q_yR y) (hx : x < q_yR y) : q_mH y (r : Int) x (q_yht y h f r c n 0) ≤ q_mH y f x h ∧ q_yht y h f r c n 0 ≤ q_mH y f r h := by
  have ht := q_trim hY hf hr hx
  obtain ⟨-, ⟨c1, c2⟩, -⟩ := hY.1.2.1 (by omega)
  have hr2 := q_ht_rg (ru := q_yru y) (lo := q_ylo y) (m := q_ymi y f r + 0) (f := q_yto y (5 * r)) (d := q_yst y f r) (k := c) (n := n) hh
  have hr3 : 0 ≤ q_yht y h f r c n 0 ∧ q_yht y h f r c n 0 ≤ h := hr2
  unfold q_mH
  cases e : q_ylo y with
  | none =>
    dsimp only
    have e1 : q_yht y h f r c n 0 = max 0 (h - max 0 (min 99 (q_ymi y f r * q_yru y 1))) := by
      unfold q_yht q_ht
      rw [e, Int.add_zero]; rfl
    have m1 : 0 ≤ q_ymi y f r * q_yru y 1 := Int.mul_nonneg (q_ymi_rg hY hf hr).2.1 c1
    have m3 : q_ymi y f x * q_yru y 1 ≤ (q_ymi y f r + q_ymi y (r : Int) x) * q_yru y 1 := Int.mul_le_mul_of_nonneg_right ht c1
    have m4 : 0 ≤ q_ymi y (r : Int) x * q_yru y 1 := Int.mul_nonneg (q_ymi_rg hY (f := (r : Int)) (Or.inr ⟨by omega, by omega⟩) hx).2.1 c1
    rw [Int.add_mul] at m3
    rw [e1]
    constructor <;> omega
  | some F => exact ⟨hr3.2, hr3.2⟩
theorem q_mh_rg {y : q_Y} (hY : q_Yk y) (rem : Nat) (f h : Int) : ∀ m i, i + m ≤ q_yR y → 0 ≤ q_mh y rem f h m i ∧ q_mh y rem f h m i ≤ 9 * (m : Int)
  | 0, _, _ => ⟨Int.le_refl _, Int.le_refl _⟩
  | m + 1, i, hi => by
    have := q_mh_rg hY rem f h m (i + 1) (by omega)
    have wk := hY.2.2 i (by omega)
    rw [q_mh]
    split <;> constructor <;> omega
/-- the bound goes down on the way -/
theorem q_mh_step {y : q_Y} (hY : q_Yk y) {rem : Nat} (hrem : rem < 256) {f h c n : Int} (hf : f = -1 ∨ (0 ≤ f ∧ f < (q_yR y : Int))) (hh : 0 ≤ h ∧ h ≤ 99) {r : Nat} (hr : r < q_yR y) (hb : rem.testBit r = true) : ∀ m i, i + m ≤ q_yR y → q_mh y (q_wo rem r) (r : Int) (q_yht y h f r c n 0) m i + (if (i ≤ r ∧ r < i + m) ∧ q_yto y (5 * r + 3) ≤ q_yht y h f r c n 0 then q_ywk y r else 0) ≤ q_mh y rem f h m i
  | 0, i, _ => by rw [if_neg (by omega)]; exact Int.le_refl _
  | m + 1, i, hi => by
    have ih := q_mh_step hY hrem hf hh (c := c) (n := n) hr hb m (i + 1) (by omega)
    have wk := hY.2.2 i (by omega)
    have hR : q_yR y ≤ 8 := by rcases hY.1.1 with q | q <;> omega
    obtain ⟨l1, l2⟩ := q_mH_le hY (c := c) (n := n) hf hh hr (show i < q_yR y by omega)
    rw [q_mh, q_mh, q_wo_bit rem r i hrem (by omega)]
    by_cases e : i = r
    · subst e
      rw [if_neg (by omega)] at ih
      rw [if_neg (by simp)]
      by_cases e2 : q_yto y (5 * i + 3) ≤ q_yht y h f i c n 0
      · rw [if_pos ⟨by omega, e2⟩, if_pos ⟨hb, by omega⟩]; omega
      · rw [if_neg (fun h => e2 h.2)]
        split <;> omega
    · have e3 : (if (i ≤ r ∧ r < i + (m + 1)) ∧ q_yto y (5 * r + 3) ≤ q_yht y h f r c n 0 then q_ywk y r else 0) = (if (i + 1 ≤ r ∧ r < i + 1 + m) ∧ q_yto y (5 * r + 3) ≤ q_yht y h f r c n 0 then q_ywk y r else 0) := by
        by_cases q : (i + 1 ≤ r ∧ r < i + 1 + m) ∧ q_yto y (5 * r + 3) ≤ q_yht y h f r c n 0
        · rw [if_pos q, if_pos ⟨by omega, q.2⟩]
        · rw [if_neg q, if_neg (fun h => q ⟨by omega, h.2⟩)]
      rw [e3]
      by_cases e4 : rem.testBit i = true ∧ q_yto y (5 * i + 3) ≤ q_mH y f i h
      · rw [if_pos e4]
        split <;> omega
      · rw [if_neg e4, if_neg (fun h => e4 ⟨by simpa [e] using h.1, by omega⟩)]; omega
theorem q_bs_prune {y : q_Y} (hY : q_Yk y) : ∀ (m rem : Nat) (f h c n hot row : Int) (b : Int × Int), rem < 256 → (∀ r, rem.testBit r = true → r < q_yR y) → (f = -1 ∨ (0 ≤ f ∧ f < (q_yR y : Int))) → 0 ≤ h ∧ h ≤ 99 → 0 ≤ c → hot + min (q_mh y rem f h (q_yR y) 0) c ≤ b.2 → q_bs y m rem f h c n hot row b = b
  | 0, rem, f, h, c, n, hot, row, b, hrem, hbit, hf, hh, hc, hle => by
    have := (q_mh_rg hY rem f h (q_yR y) 0 (by omega)).1
    rw [q_bs, if_neg (by omega)]
  | m + 1, rem, f, h, c, n, hot, row, b, hrem, hbit, hf, hh, hc, hle => by
    rw [q_bs]
    refine q_fd_id _ _ (fun r h1 h2 => ?_)
    by_cases hb : rem.testBit r = true
    · rw [if_pos hb]
      have hr := hbit r hb
      have hR : q_yR y ≤ 8 := by rcases hY.1.1 with q | q <;> omega
      have wk := hY.2.2 r hr
      have hst := q_mh_step hY hrem (c := c) (n := n) hf hh hr hb (q_yR y) 0 (by omega)
      have hht := q_ht_rg (ru := q_yru y) (lo := q_ylo y) (m := q_ymi y f r + 0) (f := q_yto y (5 * r)) (d := q_yst y f r) (k := c) (n := n) hh
      have hht2 : 0 ≤ q_yht y h f r c n 0 ∧ q_yht y h f r c n 0 ≤ h := hht
      refine q_bs_prune hY m _ _ _ _ _ _ _ b (q_wo_lt rem r hrem) (fun x hx => ?_) (Or.inr ⟨by omega, by omega⟩) ⟨by omega, by omega⟩ (by unfold q_po; omega) ?_
      · rw [q_wo_bit rem r x hrem (by omega)] at hx
        exact hbit x (by simp at hx; exact hx.1)
      · unfold q_ho q_po
        by_cases e : q_yto y (5 * r + 3) ≤ q_yht y h f r c n 0
        · rw [if_pos ⟨by omega, e⟩] at hst
          rw [if_pos e]; omega
        · rw [if_neg (fun h => e h.2)] at hst
          rw [if_neg e]; omega
    · rw [if_neg hb]
