/-! text, at J: rounds; all texts -/
theorem s_addRound {g : x_G} {k : Nat} {Q : x_Q} {I L : Nat → Nat → Int} {lp tp nr : Nat} {V : Nat → Int} (hn : nr ≤ 4) (e15 : I 1 15 = (nr : Int)) (e13 : ∀ x, x < 8 → I 13 x = V x) (h21 : 0 ≤ I 2 1 ∧ I 2 1 ≤ 240) (q0 : nr = 4 → Q [x_i (-1)] (I, L, lp, tp)) (q1 : nr < 4 → ∀ I', (∀ b x, ¬ b = 150 + nr → ¬ (b = 2 ∧ x = 1) → ¬ (b = 1 ∧ x = 15) → I' b x = I b x) → I' 2 1 = 0 → I' 1 15 = ((nr + 1 : Nat) : Int) → (∀ x, x < 8 → I' (150 + nr) x = V x) → Q [x_i (nr : Int)] (I', L, lp, tp)) : x_X g (k + 2) 125 [x_r 1] (I, L, lp, tp) Q := by
  refine v_addRound (k := k) ?_
  rw [e15, show ((nr : Int)).toNat = nr by omega]
  refine ⟨⟨by omega, by omega⟩, fun c => ⟨⟨by omega, by omega⟩, ?_⟩, fun c => q0 (by omega)⟩
  have main : ∀ A, A = 150 + nr → (x_rg ((x_cp I 13 A 0 0 8) 2 1)) ∧ ((0 ≤ ((x_cp I 13 A 0 0 8) 2 1) → Q [x_i ((((x_cp I 13 A 0 0 8) 1 15) + 1) - 1)] ((x_u (x_u (x_cp I 13 A 0 0 8) 2 1 0) 1 15 (((x_cp I 13 A 0 0 8) 1 15) + 1)), L, lp, tp)) ∧ (((x_cp I 13 A 0 0 8) 2 1) < 0 → Q [x_i ((((x_cp I 13 A 0 0 8) 1 15) + 1) - 1)] ((x_u (x_cp I 13 A 0 0 8) 1 15 (((x_cp I 13 A 0 0 8) 1 15) + 1)), L, lp, tp))) := fun A hA => by
    have a1 : x_cp I 13 A 0 0 8 2 1 = I 2 1 := by rw [x_cp_eq, if_neg (by omega)]
    have a2 : x_cp I 13 A 0 0 8 1 15 = (nr : Int) := by rw [x_cp_eq, if_neg (by omega)]; exact e15
    rw [a1, a2, show (nr : Int) + 1 - 1 = (nr : Int) by omega]
    refine ⟨⟨by omega, by omega⟩, fun _ => q1 (by omega) _ (fun b x h1 h2 h3 => ?_) rfl ((x_u_same _ _ _ _).trans (by omega)) (fun x hx => ?_), fun h => by omega⟩
    · rw [x_u_ne _ _ h3, x_u_ne _ _ h2, x_cp_eq, if_neg (fun h => h1 (by omega))]
    · subst hA
      rw [x_u_ne _ _ (by omega), x_u_ne _ _ (by omega), x_cp_eq, if_pos ⟨rfl, by omega, by omega⟩, show 0 + (x - 0) = x by omega]
      exact e13 x hx
  rcases (show nr = 0 ∨ nr = 1 ∨ nr = 2 ∨ nr = 3 by omega) with rfl | rfl | rfl | rfl
  · exact ⟨rfl, (show (0 : Int) + 8 ≤ ((8 : Nat) : Int) by decide), main 150 rfl⟩
  · exact ⟨rfl, (show (0 : Int) + 8 ≤ ((8 : Nat) : Int) by decide), main 151 rfl⟩
  · exact ⟨rfl, (show (0 : Int) + 8 ≤ ((8 : Nat) : Int) by decide), main 152 rfl⟩
  · exact ⟨rfl, (show (0 : Int) + 8 ≤ ((8 : Nat) : Int) by decide), main 153 rfl⟩
theorem j_text2 {g : x_G} {k : Nat} {w0 : x_W} (hJ : q_J w0) : q_call g (k + 140) 121 223 [x_i 2] w0 := by
  obtain ⟨I, L, lp, tp⟩ := w0
  obtain ⟨a, hP, hC, hB, hM⟩ := hJ
  dsimp only at hC hB hM
  obtain ⟨h2, hn, hb⟩ := q_j_tape hC
  have n4 := hP.2.2.2.2.1
  have nr4 := hP.2.1.1
  have hR8 := q_R8 hP
  have full : ∀ I1, q_JC I1 lp a → q_Bk I1 (j_z a) → q_JM I1 L a → j_nr a = 4 → x_X g (k + 140) 223 [x_r 179, x_i 2] (I1, L, lp, tp) (fun rv w2 => rv = [x_i (-1)] ∧ q_J w2 ∧ w2.2.1 203 0 = L 203 0) := fun I1 C1 B1 M1 h4 => by
    have m26 : I1 179 26 = (j_nr a : Int) := M1.2.1.2.2.2.2.2.1.1
    refine x_le (show 2 ≤ k + 140 by omega) (v_textM (k := 0) ?_)
    rw [m26]
    exact ⟨by decide, fun _ => ⟨fun _ => ⟨fun h => absurd rfl h, fun _ => ⟨⟨by omega, by omega⟩, fun _ => ⟨rfl, q_J_same hP C1 B1 M1, rfl⟩, fun h => absurd (by omega) h⟩⟩, fun e => absurd e (by decide)⟩, fun h => absurd ⟨by decide, by decide⟩ h⟩
  refine x_le (show 112 ≤ k + 140 by omega) (v_text (k := 111) (x_le (show 110 ≤ 111 by omega) (v_fault (k := 109) ⟨by decide, fun e => absurd e (by decide), fun e => absurd e (by decide), fun _ => ?_, fun e => absurd rfl e.2.2⟩)))
  refine x_le (show 2 ≤ 109 by omega) (s_rdRound (k := 0) rfl h2 hn hb (fun e he I1 f1 => ⟨_, rfl, _, rfl, ?_, fun h => by omega, fun _ => ⟨_, rfl, ?_⟩⟩) (fun m V he I1 f1 v1 => ⟨_, rfl, _, rfl, by decide, fun _ => ⟨by decide, fun e => absurd e (by decide), fun e => absurd e (by decide), fun _ => ?_⟩, fun h => absurd rfl h⟩))
  · have := q_rnd_er he
    exact ⟨by omega, by omega⟩
  · obtain ⟨C1, B1, M1⟩ := q_J_sc hP hC hB hM f1 (by decide)
    by_cases h4 : j_nr a = 4
    · exact full I1 C1 B1 M1 h4
    · have m26 : I1 179 26 = (j_nr a : Int) := M1.2.1.2.2.2.2.2.1.1
      have hT := q_MT_0 (q_MT_0 (q_j_MT hC M1))
      refine x_le (show 20 ≤ k + 140 by omega) (v_textM (k := 18) ?_)
      rw [m26]
      refine ⟨by decide, fun _ => ⟨fun _ => ⟨fun h => absurd rfl h, fun _ => ⟨⟨by omega, by omega⟩, fun h => absurd h (by omega), fun _ => ?_⟩⟩, fun e => absurd e (by decide)⟩, fun h => absurd ⟨by decide, by decide⟩ h⟩
      refine x_le (show 15 ≤ 18 by omega) (v_faultM (k := 13) ⟨by decide, fun _ => ⟨fun _ => ⟨fun _ => ⟨fun h => absurd rfl h, fun _ => ?_⟩, fun e => absurd e (by decide)⟩, fun e => absurd e (by decide)⟩, fun h => absurd ⟨by decide, by decide⟩ h⟩)
      refine x_le (show 3 ≤ 13 by omega) (m_round (k := 0) hT (fun e' he' hen I2 f2 e11 => ⟨rfl, _, rfl, ?_, fun h => ?_, fun _ => ⟨rfl, ?_, rfl⟩⟩) (fun m V he' => by rw [he] at he'; cases he'))
      · dsimp only; rw [e11]; exact ⟨by omega, by omega⟩
      · dsimp only at h; rw [e11] at h; omega
      · exact q_J_sm hP C1 B1 M1 (x_fr_trans (x_fr_u (x_fr_refl _ _) rfl) (x_fr_mono f2 (by decide))) (show x_sub q_fSm q_fSm = true by decide)
  · obtain ⟨C1, B1, M1⟩ := q_J_sc hP hC hB hM f1 (by decide)
    obtain ⟨⟨tt, rv8, rv1, rv2, rv3⟩, hm1⟩ := q_rnd_ok he
    have e21 := (q_j_tape C1).1
    refine x_le (show 2 ≤ 111 by omega) (s_addRound (k := 0) nr4 C1.2.1.2.2.1.1 v1 (by omega) (fun h4 => ⟨_, rfl, _, rfl, full I1 C1 B1 M1 h4⟩) (fun h4 I3 f3 l2' l15 v3 => ⟨_, rfl, _, rfl, ?_⟩))
    have hl := hP.2.1.2.1
    have hP' : q_JP ([], a.2.1, a.2.2.1, (j_nr a + 1, (fun j => if j = j_nr a then V else j_RD a j)), a.2.2.2.2) := by
      refine ⟨hP.1, ⟨show j_nr a + 1 ≤ 4 by omega, show q_vr (j_v a) = -1 ∨ (0 ≤ q_vr (j_v a) ∧ q_vr (j_v a) < ((j_nr a + 1 : Nat) : Int)) by omega, fun j hj => ?_⟩, hP.2.2.1, hP.2.2.2.1, n4, hP.2.2.2.2.2.1, hP.2.2.2.2.2.2⟩
      show (∀ x, x < 8 → -1 ≤ (if j = j_nr a then V else j_RD a j) x ∧ (if j = j_nr a then V else j_RD a j) x < 8) ∧ ∀ x x', x < 8 → x' < 8 → (if j = j_nr a then V else j_RD a j) x = (if j = j_nr a then V else j_RD a j) x' → 0 ≤ (if j = j_nr a then V else j_RD a j) x → x = x'
      have hj' : j < j_nr a + 1 := hj
      by_cases cj : j = j_nr a
      · rw [if_pos cj]
        refine ⟨fun x hx => ?_, fun x x' hx hx' e h0 => ?_⟩
        · by_cases c : x < m
          · have := (rv1 x c).1; omega
          · rw [rv2 x (by omega)]; omega
        · have cx : x < m := by
            by_cases c : x < m
            · exact c
            · rw [rv2 x (by omega)] at h0; omega
          have cx' : x' < m := by
            by_cases c : x' < m
            · exact c
            · rw [rv2 x' (by omega)] at e; omega
          exact rv3 x x' cx cx' e
      · rw [if_neg cj]
        exact hP.2.1.2.2 j (by omega)
    have e : ∀ b x, b < 150 ∨ 154 ≤ b → ¬ (b = 2 ∧ x = 1) → ¬ (b = 1 ∧ x = 15) → I3 b x = I1 b x := fun b x h1 h2 h3 => f3 b x (by omega) h2 h3
    have hi : ∀ b x, 179 ≤ b → I3 b x = I1 b x := fun b x hb => e b x (by omega) (by omega) (by omega)
    have C3 : q_JC I3 lp ([], a.2.1, a.2.2.1, (j_nr a + 1, (fun j => if j = j_nr a then V else j_RD a j)), a.2.2.2.2) := by
      obtain ⟨h1, h2, ⟨h3, h4⟩, h5, h6, h7, ⟨h8, h9⟩, h10, h11, h12, h13, h14⟩ := C1
      obtain ⟨k1, k2, ⟨k3, k4⟩, k5, k6, k7, k8⟩ := h2
      have hh : ∀ b x, 5000 ≤ b → I3 b x = I1 b x := fun b x hb => hi b x (by omega)
      refine ⟨q_Tc_nil l2', ⟨q_Oc_ag hR8 k1 (fun b x hm => ?_), q_Lc_ag k2 (fun b x hm => ?_), ⟨l15, fun j hj x hx => ?_⟩, (e 1 16 (by omega) (by omega) (by omega)).trans k5, q_St_eq k6 (fun k _ _ => e 18 k (by omega) (by omega) (by omega)) (fun k _ => ⟨e 19 k (by omega) (by omega) (by omega), e 20 k (by omega) (by omega) (by omega)⟩), q_Ac_fr k7 (e 21 4 (by omega) (by omega) (by omega)) (e 21 5 (by omega) (by omega) (by omega)) (fun b k h1 h2 => e b k (by omega) (by omega) (by omega)), fun x => (e 23 x (by omega) (by omega) (by omega)).trans (k8 x)⟩, ⟨(e 1 13 (by omega) (by omega) (by omega)).trans h3, fun j hj => q_C1_eq (h4 j hj) (fun i _ => e _ i (by omega) (by omega) (by omega)) (e _ 2 (by omega) (by omega) (by omega))⟩, (e 1 14 (by omega) (by omega) (by omega)).trans h5, h6, (e 1 17 (by omega) (by omega) (by omega)).trans h7, ⟨(e 21 6 (by omega) (by omega) (by omega)).trans h8, fun ei => ⟨q_St_eq (h9 ei).1 (fun k _ _ => e 24 k (by omega) (by omega) (by omega)) (fun k _ => ⟨e 25 k (by omega) (by omega) (by omega), e 26 k (by omega) (by omega) (by omega)⟩), fun x hx => (e 27 x (by omega) (by omega) (by omega)).trans ((h9 ei).2 x hx)⟩⟩, q_Sx_eq h10 (fun r => e 163 r (by omega) (by omega) (by omega)) (fun r => e 164 r (by omega) (by omega) (by omega)), (e 162 6 (by omega) (by omega) (by omega)).trans h11, q_Sf_fr h12 hh, q_sta_fr h13 hh, q_str_fr (S := []) h14 hh⟩
      · obtain ⟨t, m1, m2, -⟩ := (x_mem_iff _ b x).mp hm
        have hall : ∀ t ∈ q_dOc, 14 ≤ t.1 ∧ t.1 ≤ 17 := by decide
        have := hall t m1
        exact e b x (by omega) (by omega) (by omega)
      · obtain ⟨t, m1, m2, -⟩ := (x_mem_iff _ b x).mp hm
        have hall : ∀ t ∈ q_dLc, 167 ≤ t.1 := by decide
        have := hall t m1
        exact e b x (by omega) (by omega) (by omega)
      · show I3 (150 + j) x = (if j = j_nr a then V else j_RD a j) x
        have hj' : j < j_nr a + 1 := hj
        by_cases cj : j = j_nr a
        · rw [if_pos cj, cj]; exact v3 x hx
        · rw [if_neg cj, f3 (150 + j) x (by omega) (by omega) (by omega)]; exact k4 j (by omega) x hx
    have B3 : q_Bk I3 (j_z ([], a.2.1, a.2.2.1, (j_nr a + 1, (fun j => if j = j_nr a then V else j_RD a j)), a.2.2.2.2)) := by
      have b1 : q_Bk I3 (j_z a) := by
        unfold q_Bk
        rw [e 161 1 (by omega) (by omega) (by omega), e 161 3 (by omega) (by omega) (by omega), e 161 4 (by omega) (by omega) (by omega)]
        exact B1
      exact b1
    have M3 : q_JM I3 L a := q_JM_ag hP M1 (fun b k hb _ => hi b k hb) (q_LM_lo M1.2.1.2.2.2.1 hi)
    have m26 : I3 179 26 = (j_nr a : Int) := M3.2.1.2.2.2.2.2.1.1
    have hT := q_MT_0 (q_MT_0 (q_j_MT hC M3))
    refine x_le (show 20 ≤ k + 140 by omega) (v_textM (k := 18) ?_)
    rw [m26]
    refine ⟨by decide, fun _ => ⟨fun _ => ⟨fun h => absurd rfl h, fun _ => ⟨⟨by omega, by omega⟩, fun h => absurd h (by omega), fun _ => ?_⟩⟩, fun e => absurd e (by decide)⟩, fun h => absurd ⟨by decide, by decide⟩ h⟩
    refine x_le (show 15 ≤ 18 by omega) (v_faultM (k := 13) ⟨by decide, fun _ => ⟨fun _ => ⟨fun _ => ⟨fun h => absurd rfl h, fun _ => ?_⟩, fun e => absurd e (by decide)⟩, fun e => absurd e (by decide)⟩, fun h => absurd ⟨by decide, by decide⟩ h⟩)
    refine x_le (show 3 ≤ 13 by omega) (m_round (k := 0) hT (fun e' he' => by rw [he] at he'; cases he') (fun m' V' he' I4 f4 e11 e4 e32 => ⟨rfl, _, rfl, ?_, fun h => ?_, fun h => ?_⟩))
    · dsimp only; rw [e11]; decide
    · rw [he] at he'
      cases he'
      have q26 : x_u I4 179 6 0 179 26 = (j_nr a : Int) := (f4 179 26 rfl).trans m26
      refine m_t2 (k := 18) (nr := j_nr a) h4 q26 (fun I5 f5 p1 p2 p3 p4 p5 => ⟨rfl, ?_, rfl⟩)
      have ff : x_fr ([(179, 6, 7)] ++ q_fTr ++ q_fSm) I3 I5 := by
        refine x_fr_trans (x_fr_r (x_fr_trans (x_fr_u (x_fr_u (x_fr_refl _ _) rfl) rfl) (x_fr_mono f4 (by decide)))) (x_fr_l ?_)
        exact x_fr_trans (x_fr_l (x_fr_u (x_fr_refl _ _) rfl)) (x_fr_r f5)
      refine q_J_end hP' C3 B3 ff (by decide +kernel) (by decide +kernel) ?_
      obtain ⟨h1, h2, h3, h4', h5, ⟨h6, h7⟩, h8⟩ := M3
      obtain ⟨k1, k2, k3, k4, k5, ⟨k6, k7⟩, k8, k9, k10⟩ := h2
      refine ⟨q_Tm_nil ((f5 179 6 rfl).trans rfl), ⟨(ff 179 24 rfl).trans k1, fun k hk => (ff 184 k rfl).trans (k2 k hk), fun k hk => (ff 186 k rfl).trans (k3 k hk), q_LM_S ff (by decide) k4, ?_, ⟨p5, fun j hj => ?_⟩, (ff 179 30 rfl).trans k8, fun x hx => (ff 190 x rfl).trans (k9 x hx), ⟨(ff 179 46 rfl).trans k10.1, k10.2.1, fun j hj k hk => (ff 196 _ rfl).trans (k10.2.2 j hj k hk)⟩⟩, (ff 179 7 rfl).trans h3, (ff 179 29 rfl).trans h4', (ff 179 31 rfl).trans h5, ⟨(ff 179 61 rfl).trans h6, fun e x hx => (ff 202 x rfl).trans (h7 e x hx)⟩, q_Sm_s h8 ff rfl (by decide)⟩
      · unfold q_LH
        rw [ff 179 29 rfl]
        exact k5
      · show q_Rm I5 j (if j = j_nr a then V else j_RD a j)
        have hj' : j < j_nr a + 1 := hj
        by_cases cj : j = j_nr a
        · rw [if_pos cj, cj]
          refine ⟨m, p4.trans ((x_u_ne _ _ (by omega)).trans e4), rv8, fun x hx => ⟨?_, (rv1 x hx).1⟩, fun x h1 _ => rv2 x h1⟩
          rw [p2 x (by omega)]
          exact e32 x hx
        · rw [if_neg cj]
          obtain ⟨n, r1, r2, r3, r4⟩ := k7 j (by omega)
          have g9 : I5 189 j = I3 189 j := (p3 j (by omega)).trans ((x_u_ne _ _ (by omega)).trans ((f4 189 j (by
            cases ee : x_mem q_fRm 189 j with
            | false => rfl
            | true =>
              obtain ⟨t, m1, m2, m3, m4⟩ := (x_mem_iff _ 189 j).mp ee
              have hall : ∀ t ∈ q_fRm, t.1 = 189 → 4 ≤ t.2.1 := by decide
              have := hall t m1 m2.symm
              omega))))
          have g8 : ∀ x, x < 8 → I5 188 (8 * j + x) = I3 188 (8 * j + x) := fun x hx => (p1 _ (by omega)).trans ((x_u_ne _ _ (by omega)).trans ((f4 188 _ (by
            cases ee : x_mem q_fRm 188 (8 * j + x) with
            | false => rfl
            | true =>
              obtain ⟨t, m1, m2, m3, m4⟩ := (x_mem_iff _ 188 (8 * j + x)).mp ee
              have hall : ∀ t ∈ q_fRm, t.1 = 188 → 32 ≤ t.2.1 := by decide
              have := hall t m1 m2.symm
              omega))))
          exact ⟨n, g9.trans r1, r2, fun x hx => by rw [g8 x (by omega)]; exact r3 x hx, r4⟩
    · dsimp only at h; rw [e11] at h; exact absurd rfl h
theorem j_text {g : x_G} {k : Nat} {w0 : x_W} (hJ : q_J w0) {s : Int} (hs : x_rg s) : q_call g (k + 140) 121 223 [x_i s] w0 := by
  by_cases c : 0 ≤ s ∧ s ≤ 2
  · rcases (show s = 0 ∨ s = 1 ∨ s = 2 by omega) with rfl | rfl | rfl
    · exact j_text0 hJ
    · exact j_text1 hJ
    · exact j_text2 hJ
  · exact j_textX hJ hs c
