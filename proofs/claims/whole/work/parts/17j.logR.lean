/-! the log behind a day -/
theorem q_zn_tail (z : q_Z) (N : Nat → Int) (x : Nat) (hx : 29 ≤ x) : q_zn z N x = if N 29 = 60 then (if x = 29 then 60 else if x < 207 then N (x + 3) else if x = 207 then q_sq (q_zs z) else if x = 208 then q_so (q_zs z) else if x = 209 then q_sm (q_zs z) else N x) else (if x = 29 then N 29 + 1 else if (x : Int) = 30 + 3 * N 29 then q_sq (q_zs z) else if (x : Int) = 30 + 3 * N 29 + 1 then q_so (q_zs z) else if (x : Int) = 30 + 3 * N 29 + 2 then q_sm (q_zs z) else N x) := by
  unfold q_zn q_nd
  rw [if_neg (show ¬ x < 8 by omega), if_neg (show ¬ x < 16 by omega), if_neg (show ¬ x < 24 by omega), if_neg (show ¬ x < 27 by omega), if_neg (show ¬ x = 27 by omega), if_neg (show ¬ x = 28 by omega)]
def q_lgD (z : q_Z) (D : Nat) (lg : Nat → Int) : Nat → Int := fun x => if x = 3 * (D % 100) then q_sq (q_zs z) else if x = 3 * (D % 100) + 1 then q_so (q_zs z) else if x = 3 * (D % 100) + 2 then q_sm (q_zs z) else lg x
theorem q_lgD_ne {z : q_Z} {D : Nat} {lg : Nat → Int} {e w : Nat} (h : e % 100 ≠ D % 100) (hw : w < 3) : q_lgD z D lg (3 * (e % 100) + w) = lg (3 * (e % 100) + w) := by
  unfold q_lgD
  rw [if_neg (by omega), if_neg (by omega), if_neg (by omega)]
theorem q_Lr_old {z : q_Z} {lg N : Nat → Int} {D Dj : Nat} (h : q_Lr lg N Dj) (h1 : Dj ≤ D) (h2 : D ≤ Dj + 39) : q_Lr (q_lgD z D lg) N Dj := by
  obtain ⟨l1, l2, l3⟩ := h
  refine ⟨l1, l2, fun i w hi hw => ?_⟩
  rw [q_lgD_ne (e := Dj - 1 - i) (by omega) hw]
  exact l3 i w hi hw
theorem q_Lr_new {z : q_Z} {lg N : Nat → Int} {D : Nat} (h : q_Lr lg N D) : q_Lr (q_lgD z D lg) (q_zn z N) (D + 1) := by
  obtain ⟨l1, l2, l3⟩ := h
  have e29 : (N 29 = 60) ↔ 60 ≤ D := by rw [l2]; omega
  refine ⟨?_, ?_, fun i w hi hw => ?_⟩
  · show N 28 + 1 = _; rw [l1]; omega
  · rw [q_zn_tail z N 29 (by decide)]
    by_cases c : 60 ≤ D
    · rw [if_pos (e29.mpr c), if_pos rfl]; omega
    · rw [if_neg (fun h => c (e29.mp h)), if_pos rfl, l2]; omega
  · rw [q_zn_tail z N _ (by omega)]
    by_cases c : 60 ≤ D
    · rw [if_pos (e29.mpr c), if_neg (by omega)]
      by_cases c0 : i = 0
      · rw [if_neg (by omega)]
        unfold q_lgD
        rcases (show w = 0 ∨ w = 1 ∨ w = 2 by omega) with rfl | rfl | rfl
        · rw [if_pos (by omega), if_pos (by omega)]
        · rw [if_neg (by omega), if_pos (by omega), if_neg (by omega), if_pos (by omega)]
        · rw [if_neg (by omega), if_neg (by omega), if_pos (by omega), if_neg (by omega), if_neg (by omega), if_pos (by omega)]
      · rw [if_pos (by omega), q_lgD_ne (e := D + 1 - 1 - i) (by omega) hw, show D + 1 - 1 - i = D - 1 - (i - 1) by omega, l3 (i - 1) w (by omega) hw, show 30 + 3 * (min 60 D - 1 - (i - 1)) + w = 30 + 3 * (min 60 (D + 1) - 1 - i) + w + 3 by omega]
    · rw [if_neg (fun h => c (e29.mp h)), if_neg (by omega), l2]
      by_cases c0 : i = 0
      · unfold q_lgD
        rcases (show w = 0 ∨ w = 1 ∨ w = 2 by omega) with rfl | rfl | rfl
        · rw [if_pos (by omega), if_pos (by omega)]
        · rw [if_neg (by omega), if_pos (by omega), if_neg (by omega), if_pos (by omega)]
        · rw [if_neg (by omega), if_neg (by omega), if_pos (by omega), if_neg (by omega), if_neg (by omega), if_pos (by omega)]
      · rw [if_neg (by omega), if_neg (by omega), if_neg (by omega), q_lgD_ne (e := D + 1 - 1 - i) (by omega) hw, show D + 1 - 1 - i = D - 1 - (i - 1) by omega, l3 (i - 1) w (by omega) hw, show 30 + 3 * (min 60 D - 1 - (i - 1)) + w = 30 + 3 * (min 60 (D + 1) - 1 - i) + w by omega]
