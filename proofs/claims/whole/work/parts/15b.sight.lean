/-! sightings: pure -/
abbrev q_FL := List (Int × (Nat → Int))
def q_cat (F : Nat → q_FL) : Nat → Nat → q_FL
  | 0, _ => []
  | k + 1, i => F i ++ q_cat F k (i + 1)
/-- the rows that fit, in their order: the row, and when it comes to each room -/
def q_fl (y : q_Y) (es la : Nat → Int) : Nat → Nat → Int → Int → Int → (Nat → Int) → q_FL
  | 0, _, _, _, row, arr => [(row, arr)]
  | m + 1, rem, f, t, row, arr => q_cat (fun r => if rem.testBit r = true ∧ es r ≤ t + q_ymi y f r ∧ t + q_ymi y f r ≤ la r then q_fl y es la m (q_wo rem r) (r : Int) (t + q_ymi y f r + q_yto y (5 * r + 4)) (10 * row + (r : Int)) (q_up arr r (t + q_ymi y f r)) else []) (q_yR y) 0
theorem q_cat_mem {F : Nat → q_FL} {e : Int × (Nat → Int)} : ∀ k i, e ∈ q_cat F k i → ∃ r, i ≤ r ∧ r < i + k ∧ e ∈ F r
  | 0, i, h => by cases h
  | k + 1, i, h => by
    rw [q_cat, List.mem_append] at h
    rcases h with h | h
    · exact ⟨i, by omega, by omega, h⟩
    · obtain ⟨r, h1, h2, h3⟩ := q_cat_mem k (i + 1) h
      exact ⟨r, by omega, by omega, h3⟩
theorem q_cat_nil {F : Nat → q_FL} : ∀ k i, (∀ r, i ≤ r → r < i + k → F r = []) → q_cat F k i = []
  | 0, i, h => rfl
  | k + 1, i, h => by
    rw [q_cat, h i (by omega) (by omega), q_cat_nil k (i + 1) (fun r h1 h2 => h r (by omega) (by omega))]
    rfl
theorem q_cat_len {F : Nat → q_FL} {B : Nat} (h : ∀ r, (F r).length ≤ B) : ∀ k i, (q_cat F k i).length ≤ k * B
  | 0, i => by rw [q_cat]; simp
  | k + 1, i => by
    rw [q_cat, List.length_append, Nat.succ_mul]
    have := h i
    have := q_cat_len h k (i + 1)
    omega
theorem q_fl_len {y : q_Y} (hR : q_yR y ≤ 8) {es la : Nat → Int} : ∀ (m rem : Nat) (f t row : Int) (arr : Nat → Int), (q_fl y es la m rem f t row arr).length ≤ 8 ^ m
  | 0, rem, f, t, row, arr => by rw [q_fl]; exact Nat.le_refl _
  | m + 1, rem, f, t, row, arr => by
    rw [q_fl]
    refine Nat.le_trans (q_cat_len (B := 8 ^ m) (fun r => ?_) _ _) ?_
    · split
      · exact q_fl_len hR m _ _ _ _ _
      · exact Nat.zero_le _
    · rw [Nat.pow_succ, Nat.mul_comm]
      exact Nat.mul_le_mul_left _ hR
theorem q_wo_in {rem r x : Nat} (hrem : rem < 256) (hr : r < 8) : (q_wo rem r).testBit x = true → rem.testBit x = true ∧ x ≠ r := fun hx => by
  rw [q_wo_bit rem r x hrem hr] at hx
  simp at hx
  exact ⟨hx.1, hx.2⟩
theorem q_wo_mk {rem r x : Nat} (hrem : rem < 256) (hr : r < 8) (hx : rem.testBit x = true) (hn : x ≠ r) : (q_wo rem r).testBit x = true := by
  rw [q_wo_bit rem r x hrem hr, hx]
  simp [hn]
theorem q_fl_out {y : q_Y} (hR : q_yR y ≤ 8) {es la : Nat → Int} {e : Int × (Nat → Int)} {x : Nat} : ∀ (m rem : Nat) (f t row : Int) (arr : Nat → Int), rem < 256 → rem.testBit x = false → e ∈ q_fl y es la m rem f t row arr → e.2 x = arr x
  | 0, rem, f, t, row, arr, hrem, hx, he => by
    rw [q_fl] at he
    rw [List.mem_singleton.mp he]
  | m + 1, rem, f, t, row, arr, hrem, hx, he => by
    rw [q_fl] at he
    obtain ⟨r, h1, h2, h3⟩ := q_cat_mem _ _ he
    by_cases c : rem.testBit r = true ∧ es r ≤ t + q_ymi y f r ∧ t + q_ymi y f r ≤ la r
    · rw [if_pos c] at h3
      have hxr : x ≠ r := fun e => by rw [e, c.1] at hx; cases hx
      rw [q_fl_out hR m _ _ _ _ _ (q_wo_lt rem r hrem) (by cases e : (q_wo rem r).testBit x with | false => rfl | true => exact absurd (q_wo_in hrem (by omega) e).1 (by rw [hx]; decide)) h3]
      unfold q_up
      rw [if_neg hxr]
    · rw [if_neg c] at h3; cases h3
theorem q_fl_nil {y : q_Y} (hY : q_Yk y) {es la : Nat → Int} {x : Nat} : ∀ (m rem : Nat) (f t row : Int) (arr : Nat → Int), q_pc rem = m → rem < 256 → (∀ r, rem.testBit r = true → r < q_yR y) → (f = -1 ∨ (0 ≤ f ∧ f < (q_yR y : Int))) → rem.testBit x = true → la x < t + q_ymi y f x → q_fl y es la m rem f t row arr = []
  | 0, rem, f, t, row, arr, hpc, hrem, hbit, hf, hx, hl => by
    rw [(q_pc_0 hrem).mp hpc] at hx; simp at hx
  | m + 1, rem, f, t, row, arr, hpc, hrem, hbit, hf, hx, hl => by
    have hR : q_yR y ≤ 8 := by rcases hY.1.1 with q | q <;> omega
    rw [q_fl]
    refine q_cat_nil _ _ (fun r h1 h2 => ?_)
    by_cases c : rem.testBit r = true ∧ es r ≤ t + q_ymi y f r ∧ t + q_ymi y f r ≤ la r
    · rw [if_pos c]
      have hxr : x ≠ r := fun e => by rw [e] at hl; omega
      have hqp := q_pc_wo hrem (show r < 8 by omega) c.1
      have tr := q_trim hY hf (hbit r c.1) (hbit x hx)
      obtain ⟨-, -, t4, -⟩ := q_yto_rg hY (hbit r c.1)
      exact q_fl_nil hY m _ _ _ _ _ (by omega) (q_wo_lt rem r hrem) (fun z hz => hbit z (q_wo_in hrem (by omega) hz).1) (Or.inr ⟨by omega, by have := hbit r c.1; omega⟩) (q_wo_mk hrem (by omega) hx hxr) (by omega)
    · rw [if_neg c]
def q_bsum (lg : Nat → Int) (rem : Nat) : Nat → Nat → Int
  | 0, _ => 0
  | k + 1, i => (if rem.testBit i = true then lg i else 0) + q_bsum lg rem k (i + 1)
theorem q_bsum_eq {lg : Nat → Int} {a b : Nat} : ∀ k i, (∀ r, i ≤ r → r < i + k → a.testBit r = b.testBit r) → q_bsum lg a k i = q_bsum lg b k i
  | 0, i, h => rfl
  | k + 1, i, h => by
    rw [q_bsum, q_bsum, h i (by omega) (by omega), q_bsum_eq k (i + 1) (fun r h1 h2 => h r (by omega) (by omega))]
theorem q_bsum_wo {lg : Nat → Int} {rem r : Nat} (hrem : rem < 256) (hr : r < 8) (hb : rem.testBit r = true) : ∀ k i, i ≤ r → r < i + k → q_bsum lg rem k i = lg r + q_bsum lg (q_wo rem r) k i
  | 0, i, h1, h2 => by omega
  | k + 1, i, h1, h2 => by
    rw [q_bsum, q_bsum]
    by_cases e : i = r
    · subst e
      rw [if_pos hb, if_neg (fun h => (q_wo_in hrem hr h).2 rfl), q_bsum_eq (b := q_wo rem i) k (i + 1) (fun z h3 h4 => by rw [q_wo_bit rem i z hrem hr]; simp [show z ≠ i by omega])]
      omega
    · rw [q_bsum_wo hrem hr hb k (i + 1) (by omega) (by omega)]
      have : (q_wo rem r).testBit i = rem.testBit i := by rw [q_wo_bit rem r i hrem hr]; simp [e]
      rw [this]
      omega
theorem q_bsum_0 {lg : Nat → Int} : ∀ k i, q_bsum lg 0 k i = 0
  | 0, i => rfl
  | k + 1, i => by rw [q_bsum, q_bsum_0 k (i + 1)]; simp
theorem q_exb {n : Nat} (h : q_pc n ≠ 0) : ∃ r, r < 8 ∧ n.testBit r = true := by
  refine Classical.byContradiction (fun hno => h ?_)
  have hf : ∀ r, r < 8 → n.testBit r = false := fun r hr => by
    cases e : n.testBit r with
    | false => rfl
    | true => exact absurd ⟨r, hr, e⟩ hno
  unfold q_pc
  rw [hf 0 (by decide), hf 1 (by decide), hf 2 (by decide), hf 3 (by decide), hf 4 (by decide), hf 5 (by decide), hf 6 (by decide), hf 7 (by decide)]
  rfl
theorem q_bsum_1 {R : Nat} (hR : R ≤ 8) : ∀ (m rem : Nat), q_pc rem = m → rem < 256 → (∀ r, rem.testBit r = true → r < R) → q_bsum (fun _ => 1) rem R 0 = (m : Int)
  | 0, rem, hpc, hrem, hbit => by rw [(q_pc_0 hrem).mp hpc, q_bsum_0]; rfl
  | m + 1, rem, hpc, hrem, hbit => by
    obtain ⟨r, hr, hb⟩ := q_exb (n := rem) (by omega)
    have hqp := q_pc_wo hrem hr hb
    rw [q_bsum_wo hrem hr hb R 0 (Nat.zero_le _) (by have := hbit r hb; omega), q_bsum_1 hR m _ (by omega) (q_wo_lt rem r hrem) (fun z hz => hbit z (q_wo_in hrem hr hz).1)]
    omega
def q_fac : Nat → Nat
  | 0 => 1
  | n + 1 => (n + 1) * q_fac n
theorem q_cat_N {F : Nat → q_FL} {rem N : Nat} : ∀ k i, (∀ r, i ≤ r → r < i + k → (F r).length = if rem.testBit r = true then N else 0) → ((q_cat F k i).length : Int) = q_bsum (fun _ => 1) rem k i * (N : Int)
  | 0, i, h => by rw [q_cat, q_bsum]; simp
  | k + 1, i, h => by
    rw [q_cat, q_bsum, List.length_append, h i (by omega) (by omega), Int.add_mul, Int.natCast_add, q_cat_N k (i + 1) (fun r h1 h2 => h r (by omega) (by omega))]
    by_cases c : rem.testBit i = true
    · rw [if_pos c, if_pos c]; simp
    · rw [if_neg c, if_neg c]; simp
/-- the way there and the stop, from wherever it comes -/
def q_lgok (y : q_Y) (lg : Nat → Int) : Prop := ∀ r, r < q_yR y → (lg r ≤ 150) ∧ ∀ f : Int, (f = -1 ∨ (0 ≤ f ∧ f < (q_yR y : Int))) → q_ymi y f r + q_yto y (5 * r + 4) ≤ lg r
theorem q_bsum_nn {y : q_Y} (hY : q_Yk y) {lg : Nat → Int} (hg : q_lgok y lg) {rem : Nat} : ∀ k i, i + k = q_yR y → 0 ≤ q_bsum lg rem k i ∧ q_bsum lg rem k i ≤ 150 * (k : Int)
  | 0, i, h => by rw [q_bsum]; omega
  | k + 1, i, h => by
    rw [q_bsum]
    have := q_bsum_nn hY hg (rem := rem) k (i + 1) (by omega)
    obtain ⟨g1, g2⟩ := hg i (by omega)
    have g3 := g2 (-1) (Or.inl rfl)
    obtain ⟨-, m1, m2⟩ := q_ymi_rg hY (f := -1) (Or.inl rfl) (show i < q_yR y by omega)
    obtain ⟨-, -, t4, -⟩ := q_yto_rg hY (show i < q_yR y by omega)
    split <;> omega
theorem q_fl_all {y : q_Y} (hY : q_Yk y) {es la lg : Nat → Int} (hg : q_lgok y lg) : ∀ (m rem : Nat) (f t row : Int) (arr : Nat → Int), q_pc rem = m → rem < 256 → (∀ r, rem.testBit r = true → r < q_yR y) → (f = -1 ∨ (0 ≤ f ∧ f < (q_yR y : Int))) → (∀ x, rem.testBit x = true → es x ≤ t + q_ymi y f x ∧ t + q_bsum lg rem (q_yR y) 0 ≤ la x) → (q_fl y es la m rem f t row arr).length = q_fac m ∧ ∀ e ∈ q_fl y es la m rem f t row arr, ∀ x, rem.testBit x = true → t ≤ e.2 x ∧ e.2 x ≤ t + q_bsum lg rem (q_yR y) 0
  | 0, rem, f, t, row, arr, hpc, hrem, hbit, hf, h => by
    rw [q_fl]
    refine ⟨rfl, fun e he x hx => ?_⟩
    rw [(q_pc_0 hrem).mp hpc] at hx; simp at hx
  | m + 1, rem, f, t, row, arr, hpc, hrem, hbit, hf, h => by
    have hR : q_yR y ≤ 8 := by rcases hY.1.1 with q | q <;> omega
    have sub : ∀ r, rem.testBit r = true → (es r ≤ t + q_ymi y f r ∧ t + q_ymi y f r ≤ la r) ∧ (t ≤ t + q_ymi y f r ∧ t + q_ymi y f r + q_yto y (5 * r + 4) + q_bsum lg (q_wo rem r) (q_yR y) 0 ≤ t + q_bsum lg rem (q_yR y) 0) ∧ (q_fl y es la m (q_wo rem r) (r : Int) (t + q_ymi y f r + q_yto y (5 * r + 4)) (10 * row + (r : Int)) (q_up arr r (t + q_ymi y f r))).length = q_fac m ∧ ∀ e ∈ q_fl y es la m (q_wo rem r) (r : Int) (t + q_ymi y f r + q_yto y (5 * r + 4)) (10 * row + (r : Int)) (q_up arr r (t + q_ymi y f r)), ∀ x, (q_wo rem r).testBit x = true → t + q_ymi y f r + q_yto y (5 * r + 4) ≤ e.2 x ∧ e.2 x ≤ t + q_ymi y f r + q_yto y (5 * r + 4) + q_bsum lg (q_wo rem r) (q_yR y) 0 := by
      intro r hb
      have hr := hbit r hb
      have hqp := q_pc_wo hrem (show r < 8 by omega) hb
      obtain ⟨-, m1, m2⟩ := q_ymi_rg hY hf hr
      obtain ⟨-, -, t4, -⟩ := q_yto_rg hY hr
      have e1 := q_bsum_wo (lg := lg) hrem (show r < 8 by omega) hb (q_yR y) 0 (Nat.zero_le _) (by omega)
      have g3 := (hg r hr).2 f hf
      have nn := q_bsum_nn hY hg (rem := q_wo rem r) (q_yR y) 0 (by omega)
      obtain ⟨h1, h2⟩ := h r hb
      refine ⟨⟨h1, by omega⟩, ⟨by omega, by omega⟩, q_fl_all hY hg m _ _ _ _ _ (by omega) (q_wo_lt rem r hrem) (fun z hz => hbit z (q_wo_in hrem (by omega) hz).1) (Or.inr ⟨by omega, by omega⟩) (fun x hx => ?_)⟩
      have hx' := (q_wo_in hrem (show r < 8 by omega) hx).1
      obtain ⟨h3, h4⟩ := h x hx'
      have tr := q_trim hY hf hr (hbit x hx')
      exact ⟨by omega, by omega⟩
    rw [q_fl]
    constructor
    · have := q_cat_N (F := fun r => if rem.testBit r = true ∧ es r ≤ t + q_ymi y f r ∧ t + q_ymi y f r ≤ la r then q_fl y es la m (q_wo rem r) (r : Int) (t + q_ymi y f r + q_yto y (5 * r + 4)) (10 * row + (r : Int)) (q_up arr r (t + q_ymi y f r)) else []) (rem := rem) (N := q_fac m) (q_yR y) 0 (fun r h1 h2 => by
        by_cases c : rem.testBit r = true
        · rw [if_pos c]
          rw [if_pos ⟨c, (sub r c).1⟩]
          exact (sub r c).2.2.1
        · rw [if_neg c]
          rw [if_neg (fun h => c h.1)]
          rfl)
      rw [q_bsum_1 hR (m + 1) rem hpc hrem hbit] at this
      have e : q_fac (m + 1) = (m + 1) * q_fac m := rfl
      rw [e]
      exact Int.ofNat.inj (by rw [Int.ofNat_eq_natCast, Int.ofNat_eq_natCast, this, Int.natCast_mul])
    · intro e he x hx
      obtain ⟨r, h1, h2, h3⟩ := q_cat_mem _ _ he
      by_cases c : rem.testBit r = true ∧ es r ≤ t + q_ymi y f r ∧ t + q_ymi y f r ≤ la r
      · rw [if_pos c] at h3
        obtain ⟨-, s1, s2, s3⟩ := sub r c.1
        by_cases exr : x = r
        · subst exr
          rw [q_fl_out hR m _ _ _ _ _ (q_wo_lt rem x hrem) (by cases e : (q_wo rem x).testBit x with | false => rfl | true => exact absurd rfl (q_wo_in hrem (by omega) e).2) h3]
          unfold q_up
          rw [if_pos rfl]
          have nn := q_bsum_nn hY hg (rem := q_wo rem x) (q_yR y) 0 (by omega)
          obtain ⟨-, -, t4, -⟩ := q_yto_rg hY (hbit x hx)
          exact ⟨by omega, by omega⟩
        · have := s3 e h3 x (q_wo_mk hrem (by omega) hx exr)
          obtain ⟨-, -, t4, -⟩ := q_yto_rg hY (hbit r c.1)
          exact ⟨by omega, by omega⟩
      · rw [if_neg c] at h3; cases h3
/-- in how many of them it has come to x by minute a -/
def q_ys (a : Int) (x : Nat) : q_FL → Int
  | [] => 0
  | e :: l => (if e.2 x ≤ a then 1 else 0) + q_ys a x l
theorem q_ys_app {a : Int} {x : Nat} : ∀ l1 l2, q_ys a x (l1 ++ l2) = q_ys a x l1 + q_ys a x l2
  | [], l2 => by rw [q_ys]; simp
  | e :: l1, l2 => by rw [List.cons_append, q_ys, q_ys, q_ys_app l1 l2]; omega
theorem q_ys_rg {a : Int} {x : Nat} : ∀ l, 0 ≤ q_ys a x l ∧ q_ys a x l ≤ (l.length : Int)
  | [] => by rw [q_ys]; simp
  | e :: l => by
    have := q_ys_rg (a := a) (x := x) l
    rw [q_ys, List.length_cons]
    split <;> omega
theorem q_ys_yes {a : Int} {x : Nat} : ∀ l : q_FL, (∀ e ∈ l, e.2 x ≤ a) → q_ys a x l = (l.length : Int)
  | [], h => rfl
  | e :: l, h => by
    rw [q_ys, if_pos (h e (List.mem_cons_self ..)), q_ys_yes l (fun e he => h e (List.mem_cons_of_mem _ he)), List.length_cons]
    omega
theorem q_ys_no {a : Int} {x : Nat} : ∀ l : q_FL, (∀ e ∈ l, ¬ e.2 x ≤ a) → q_ys a x l = 0
  | [], h => rfl
  | e :: l, h => by
    rw [q_ys, if_neg (h e (List.mem_cons_self ..)), q_ys_no l (fun e he => h e (List.mem_cons_of_mem _ he))]
    rfl
def q_nth : q_FL → Nat → Int
  | [], _ => -1
  | e :: _, 0 => e.1
  | _ :: l, b + 1 => q_nth l b
theorem q_nth_lt : ∀ (l1 l2 : q_FL) b, b < l1.length → q_nth (l1 ++ l2) b = q_nth l1 b
  | [], l2, b, h => by simp at h
  | e :: l1, l2, 0, h => rfl
  | e :: l1, l2, b + 1, h => by
    rw [List.cons_append, q_nth, q_nth]
    exact q_nth_lt l1 l2 b (by rw [List.length_cons] at h; omega)
theorem q_nth_ge : ∀ (l1 l2 : q_FL) b, l1.length ≤ b → q_nth (l1 ++ l2) b = q_nth l2 (b - l1.length)
  | [], l2, b, h => by simp
  | e :: l1, l2, 0, h => by simp at h
  | e :: l1, l2, b + 1, h => by
    rw [List.length_cons] at h
    rw [List.cons_append, q_nth, q_nth_ge l1 l2 b (by omega), List.length_cons, show b + 1 - (l1.length + 1) = b - l1.length by omega]
/-- the wanted row, as the reference keeps it -/
def q_keep (w : Int) : Int → Int → q_FL → Int
  | _, fr, [] => fr
  | n, fr, e :: l => q_keep w (n + 1) (if n = w then e.1 else fr) l
theorem q_keep_app {w : Int} : ∀ (l1 l2 : q_FL) (n fr : Int), q_keep w n fr (l1 ++ l2) = q_keep w (n + (l1.length : Int)) (q_keep w n fr l1) l2
  | [], l2, n, fr => by rw [List.nil_append, q_keep]; simp
  | e :: l1, l2, n, fr => by
    rw [List.cons_append, q_keep, q_keep, q_keep_app l1 l2, List.length_cons, show n + 1 + (l1.length : Int) = n + ((l1.length + 1 : Nat) : Int) by omega]
theorem q_keep_past {w : Int} : ∀ (l : q_FL) (n fr : Int), w < n → q_keep w n fr l = fr
  | [], n, fr, h => rfl
  | e :: l, n, fr, h => by rw [q_keep, if_neg (by omega), q_keep_past l (n + 1) fr (by omega)]
theorem q_keep_nth {w : Int} : ∀ (l : q_FL) (n : Int) (b : Nat), w = n + (b : Int) → q_keep w n (-1) l = q_nth l b
  | [], n, b, h => rfl
  | e :: l, n, 0, h => by rw [q_keep, if_pos (by omega), q_keep_past l (n + 1) _ (by omega)]; rfl
  | e :: l, n, b + 1, h => by rw [q_keep, if_neg (by omega), q_keep_nth l (n + 1) b (by omega)]; rfl
