/-! the law's own code: its check, in slices -/
noncomputable def am_lc1 (n : Nat) : Bool := am_ck1 (am_mt 286).2.2.2.2.1 (am_mt 286).2.2.2.2.2.1 (am_mt 286).2.1 (am_mt 286).2.2.2.1 (am_ct 286).1 ((am_ct 286).1.getD n 0) ((am_ct 286).1.getD (n + 1) 0) ((am_ct 286).2.1.getD n 0) (am_fe (am_ct 286).2.2 n)
noncomputable def am_lcs (a : Nat) : Nat → Bool
  | 0 => true
  | m + 1 => am_lc1 a && am_lcs (a + 1) m
theorem am_lcs_at : ∀ (m a n : Nat), am_lcs a m = true → a ≤ n → n < a + m → am_lc1 n = true
  | 0, a, n => fun _ h1 h2 => by omega
  | m + 1, a, n => fun h h1 h2 => by
    unfold am_lcs at h
    rw [Bool.and_eq_true] at h
    by_cases c : n = a
    · rw [c]; exact h.1
    · exact am_lcs_at m (a + 1) n h.2 (by omega) (by omega)
theorem am_lk_0 : am_lcs 0 60 = true := by decide +kernel
theorem am_lk_1 : am_lcs 60 60 = true := by decide +kernel
theorem am_lk_2 : am_lcs 120 60 = true := by decide +kernel
theorem am_lk_3 : am_lcs 180 60 = true := by decide +kernel
theorem am_lk_4 : am_lcs 240 60 = true := by decide +kernel
theorem am_lk_5 : am_lcs 300 60 = true := by decide +kernel
theorem am_lk_6 : am_lcs 360 60 = true := by decide +kernel
theorem am_lk_7 : am_lcs 420 60 = true := by decide +kernel
theorem am_lk_8 : am_lcs 480 60 = true := by decide +kernel
theorem am_lk_9 : am_lcs 540 60 = true := by decide +kernel
theorem am_lk_10 : am_lcs 600 60 = true := by decide +kernel
theorem am_lk_11 : am_lcs 660 60 = true := by decide +kernel
theorem am_lk_12 : am_lcs 720 60 = true := by decide +kernel
theorem am_lk_13 : am_lcs 780 60 = true := by decide +kernel
theorem am_lk_14 : am_lcs 840 60 = true := by decide +kernel
theorem am_lk_15 : am_lcs 900 60 = true := by decide +kernel
theorem am_lk_16 : am_lcs 960 51 = true := by decide +kernel
theorem am_llen : (am_cod 286).length = 1011 := by decide +kernel
theorem am_lck {n : Nat} (hn : n < (am_cod 286).length) : am_ck 286 n ((am_ct 286).2.1.getD n 0) (am_fe (am_cod 286) n) := by
  rw [am_llen] at hn
  show am_lc1 n = true
  by_cases c0 : n < 60
  · exact am_lcs_at 60 0 n am_lk_0 (by omega) (by omega)
  by_cases c1 : n < 120
  · exact am_lcs_at 60 60 n am_lk_1 (by omega) (by omega)
  by_cases c2 : n < 180
  · exact am_lcs_at 60 120 n am_lk_2 (by omega) (by omega)
  by_cases c3 : n < 240
  · exact am_lcs_at 60 180 n am_lk_3 (by omega) (by omega)
  by_cases c4 : n < 300
  · exact am_lcs_at 60 240 n am_lk_4 (by omega) (by omega)
  by_cases c5 : n < 360
  · exact am_lcs_at 60 300 n am_lk_5 (by omega) (by omega)
  by_cases c6 : n < 420
  · exact am_lcs_at 60 360 n am_lk_6 (by omega) (by omega)
  by_cases c7 : n < 480
  · exact am_lcs_at 60 420 n am_lk_7 (by omega) (by omega)
  by_cases c8 : n < 540
  · exact am_lcs_at 60 480 n am_lk_8 (by omega) (by omega)
  by_cases c9 : n < 600
  · exact am_lcs_at 60 540 n am_lk_9 (by omega) (by omega)
  by_cases c10 : n < 660
  · exact am_lcs_at 60 600 n am_lk_10 (by omega) (by omega)
  by_cases c11 : n < 720
  · exact am_lcs_at 60 660 n am_lk_11 (by omega) (by omega)
  by_cases c12 : n < 780
  · exact am_lcs_at 60 720 n am_lk_12 (by omega) (by omega)
  by_cases c13 : n < 840
  · exact am_lcs_at 60 780 n am_lk_13 (by omega) (by omega)
  by_cases c14 : n < 900
  · exact am_lcs_at 60 840 n am_lk_14 (by omega) (by omega)
  by_cases c15 : n < 960
  · exact am_lcs_at 60 900 n am_lk_15 (by omega) (by omega)
  exact am_lcs_at 51 960 n am_lk_16 (by omega) (by omega)
