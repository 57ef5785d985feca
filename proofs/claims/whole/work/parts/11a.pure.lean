/-! Bytes: blanks, digits, numbers, letters -/
def q_sk (b : Nat → Int) (n : Nat) : Nat → Nat → Nat
  | 0, i => i
  | f + 1, i => if i < n ∧ b i = 32 then q_sk b n f (i + 1) else i
/-- behind the blanks -/
def q_s (b : Nat → Int) (n i : Nat) : Nat := q_sk b n (n - i) i
/-- the byte there, -1 behind the last one -/
def q_tk (b : Nat → Int) (n i : Nat) : Int := if i < n then b i else -1
theorem q_s_fix {b : Nat → Int} {n i : Nat} (h : ¬ (i < n ∧ b i = 32)) : q_s b n i = i := by
  unfold q_s
  cases e : n - i with
  | zero => rfl
  | succ f => rw [q_sk, if_neg h]
theorem q_s_step {b : Nat → Int} {n i : Nat} (h : i < n ∧ b i = 32) : q_s b n i = q_s b n (i + 1) := by
  unfold q_s
  rw [show n - i = (n - (i + 1)) + 1 by omega, q_sk, if_pos h]
theorem q_sk_ge (b : Nat → Int) (n : Nat) : ∀ f i, i ≤ q_sk b n f i
  | 0, i => Nat.le_refl _
  | f + 1, i => by
    rw [q_sk]
    have := q_sk_ge b n f (i + 1)
    split <;> omega
theorem q_sk_le (b : Nat → Int) (n : Nat) : ∀ f i, i ≤ n → q_sk b n f i ≤ n
  | 0, i, h => h
  | f + 1, i, h => by
    rw [q_sk]
    split
    · exact q_sk_le b n f (i + 1) (by omega)
    · exact h
theorem q_sk_nb (b : Nat → Int) (n : Nat) : ∀ f i, n - i ≤ f → ¬ (q_sk b n f i < n ∧ b (q_sk b n f i) = 32)
  | 0, i, h => by rw [q_sk]; omega
  | f + 1, i, h => by
    rw [q_sk]
    split
    · exact q_sk_nb b n f (i + 1) (by omega)
    · rename_i q; exact q
theorem q_s_ge (b : Nat → Int) (n i : Nat) : i ≤ q_s b n i := q_sk_ge b n _ i
theorem q_s_le {b : Nat → Int} {n i : Nat} (h : i ≤ n) : q_s b n i ≤ n := q_sk_le b n _ i h
theorem q_s_nb (b : Nat → Int) (n i : Nat) : ¬ (q_s b n i < n ∧ b (q_s b n i) = 32) := q_sk_nb b n _ i (Nat.le_refl _)
theorem q_s_idem (b : Nat → Int) (n i : Nat) : q_s b n (q_s b n i) = q_s b n i := q_s_fix (q_s_nb b n i)
theorem q_s_congr {b b' : Nat → Int} {n : Nat} (h : ∀ i, i < n → b' i = b i) : ∀ i, q_s b' n i = q_s b n i := by
  have key : ∀ f i, q_sk b' n f i = q_sk b n f i := by
    intro f
    induction f with
    | zero => intro i; rfl
    | succ f ih =>
      intro i
      rw [q_sk, q_sk, ih]
      by_cases hi : i < n
      · rw [h i hi]
      · rw [if_neg (fun q => hi q.1), if_neg (fun q => hi q.1)]
  exact fun i => key _ i
theorem q_tk_congr {b b' : Nat → Int} {n : Nat} (h : ∀ i, i < n → b' i = b i) (i : Nat) : q_tk b' n i = q_tk b n i := by
  unfold q_tk
  by_cases hi : i < n
  · rw [if_pos hi, if_pos hi, h i hi]
  · rw [if_neg hi, if_neg hi]
theorem q_tk_lt {b : Nat → Int} {n i : Nat} (h : 0 ≤ q_tk b n i) : i < n := by
  unfold q_tk at h
  by_cases hi : i < n
  · exact hi
  · rw [if_neg hi] at h; omega
/-- how many digits stand there, m at most -/
def q_dg (b : Nat → Int) (n : Nat) : Nat → Nat → Nat
  | 0, _ => 0
  | m + 1, i => if i < n ∧ 48 ≤ b i ∧ b i ≤ 57 then q_dg b n m (i + 1) + 1 else 0
theorem q_dg_le (b : Nat → Int) (n : Nat) : ∀ m i, q_dg b n m i ≤ m
  | 0, _ => Nat.le_refl _
  | m + 1, i => by
    rw [q_dg]
    have := q_dg_le b n m (i + 1)
    split <;> omega
theorem q_dg_n (b : Nat → Int) (n : Nat) : ∀ m i, i ≤ n → i + q_dg b n m i ≤ n
  | 0, i, h => by rw [q_dg]; omega
  | m + 1, i, h => by
    rw [q_dg]
    split
    · have := q_dg_n b n m (i + 1) (by omega); omega
    · omega
theorem q_dg_in (b : Nat → Int) (n : Nat) : ∀ m i j, j < q_dg b n m i → i + j < n ∧ 48 ≤ b (i + j) ∧ b (i + j) ≤ 57
  | 0, i, j, h => by rw [q_dg] at h; omega
  | m + 1, i, j, h => by
    rw [q_dg] at h
    split at h
    · rename_i q
      cases j with
      | zero => exact q
      | succ j => rw [show i + (j + 1) = i + 1 + j by omega]; exact q_dg_in b n m (i + 1) j (by omega)
    · omega
theorem q_dg_out (b : Nat → Int) (n : Nat) : ∀ m i, q_dg b n m i < m → ¬ (i + q_dg b n m i < n ∧ 48 ≤ b (i + q_dg b n m i) ∧ b (i + q_dg b n m i) ≤ 57)
  | 0, i, h => by omega
  | m + 1, i, h => by
    rw [q_dg] at h ⊢
    split
    · rename_i q
      rw [if_pos q] at h
      rw [show i + (q_dg b n m (i + 1) + 1) = i + 1 + q_dg b n m (i + 1) by omega]
      exact q_dg_out b n m (i + 1) (by omega)
    · rename_i q; exact q
theorem q_dg_congr {b b' : Nat → Int} {n : Nat} (h : ∀ i, i < n → b' i = b i) : ∀ m i, q_dg b' n m i = q_dg b n m i
  | 0, _ => rfl
  | m + 1, i => by
    rw [q_dg, q_dg, q_dg_congr h m]
    by_cases hi : i < n
    · rw [h i hi]
    · rw [if_neg (fun q => hi q.1), if_neg (fun q => hi q.1)]
/-- the number of d digits from i on -/
def q_nv (b : Nat → Int) (i : Nat) : Nat → Int
  | 0 => 0
  | d + 1 => 10 * q_nv b i d + b (i + d) - 48
theorem q_nv_congr {b b' : Nat → Int} {n : Nat} (h : ∀ i, i < n → b' i = b i) (i : Nat) : ∀ d, i + d ≤ n → q_nv b' i d = q_nv b i d
  | 0, _ => rfl
  | d + 1, hd => by rw [q_nv, q_nv, q_nv_congr h i d (by omega), h _ (by omega)]
theorem q_nv_rg {b : Nat → Int} {i : Nat} : ∀ d, (∀ j, j < d → 48 ≤ b (i + j) ∧ b (i + j) ≤ 57) → 0 ≤ q_nv b i d ∧ q_nv b i d < ((10 ^ d : Nat) : Int)
  | 0, _ => ⟨Int.le_refl _, by show (0 : Int) < 1; decide⟩
  | d + 1, h => by
    have h1 := q_nv_rg d (fun j hj => h j (by omega))
    have h2 := h d (by omega)
    rw [q_nv, Nat.pow_succ]
    constructor <;> omega
/-- where a sign stands among letters -/
def q_ixl : List Int → Int → Int → Int
  | [], _, _ => -1
  | a :: l, k, z => if z = a then k else q_ixl l (k + 1) z
def q_strs (A : Nat) : List Int := if A = 5100 then [121] else if A = 5101 then [109, 104, 102, 100, 107, 110] else if A = 5102 then [104, 99, 112, 107] else [102, 120, 119, 110, 115]
def q_ix (A : Nat) (z : Int) : Int := q_ixl (q_strs A) 0 z
abbrev q_li (z : Int) : Int := q_ix 5101 z
theorem q_ixl_rg : ∀ (l : List Int) (k z : Int), 0 ≤ k → (q_ixl l k z = -1 ∧ z ∉ l) ∨ (k ≤ q_ixl l k z ∧ q_ixl l k z < k + (l.length : Int) ∧ z ∈ l)
  | [], k, z, _ => Or.inl ⟨rfl, by simp⟩
  | a :: l, k, z, hk => by
    rw [q_ixl, List.length_cons]
    by_cases h : z = a
    · rw [if_pos h]; exact Or.inr ⟨by omega, by omega, by simp [h]⟩
    · rw [if_neg h]
      rcases q_ixl_rg l (k + 1) z (by omega) with ⟨q1, q2⟩ | ⟨q1, q2, q3⟩
      · exact Or.inl ⟨q1, by simp [h, q2]⟩
      · exact Or.inr ⟨by omega, by omega, by simp [q3]⟩
