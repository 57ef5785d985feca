/-! text, at J: laws and rounds -/
theorem s_lcopy {g : x_G} {k : Nat} {Q : x_Q} {I L : Nat → Nat → Int} {lp tp j : Nat} {C : List Int} (hj : j < 4) (hc : q_Cd I C) (hl : C.length ≤ 240) (hq : ∀ I', (∀ b x, ¬ (b = 167 + 3 * j ∧ x = 2) → ¬ b = 168 + 3 * j → I' b x = I b x) → I' (167 + 3 * j) 2 = (C.length : Int) → (∀ x, x < C.length → I' (168 + 3 * j) x = C.getD x 0) → Q [] (I', L, lp, tp)) : (x_sh g.2.2 (x_r0 148 j)).1 = 1 ∧ x_X g (k + 1) 22 [x_r (x_r0 148 j), x_r 10] (I, L, lp, tp) Q := by
  obtain ⟨c1, c2⟩ := hc
  have fin : ∀ A B : Nat, A = 167 + 3 * j → B = 168 + 3 * j → Q [] (x_u (x_cp I 11 B 0 0 C.length) A 2 (C.length : Int), L, lp, tp) := fun A B hA hB => by
    subst hA hB
    refine hq _ (fun b x h1 h2 => ?_) (x_u_same _ _ _ _) (fun x hx => ?_)
    · rw [x_u_ne _ _ h1, x_cp_eq, if_neg (fun h => h2 h.1)]
    · rw [x_u_ne _ _ (by omega), x_cp_eq, if_pos ⟨rfl, by omega, by omega⟩, show 0 + (x - 0) = x by omega]
      exact c2 x hx
  have e : ((C.length : Int)).toNat = C.length := by omega
  rcases (show j = 0 ∨ j = 1 ∨ j = 2 ∨ j = 3 by omega) with rfl | rfl | rfl | rfl
  · refine ⟨rfl, v_lcopy167 (k := k) ?_⟩
    rw [c1, e]
    exact ⟨by omega, by omega, fin _ _ rfl rfl⟩
  · refine ⟨rfl, v_lcopy170 (k := k) ?_⟩
    rw [c1, e]
    exact ⟨by omega, by omega, fin _ _ rfl rfl⟩
  · refine ⟨rfl, v_lcopy173 (k := k) ?_⟩
    rw [c1, e]
    exact ⟨by omega, by omega, fin _ _ rfl rfl⟩
  · refine ⟨rfl, v_lcopy176 (k := k) ?_⟩
    rw [c1, e]
    exact ⟨by omega, by omega, fin _ _ rfl rfl⟩
theorem q_C1_new {I : Nat → Nat → Int} {j n : Nat} {b : Nat → Int} {C : List Int} {a' : q_AV} (hn : n ≤ 240) (h : q_rl b n = some (.inr (C, a'))) (e1 : I (167 + 3 * j) 2 = (C.length : Int)) (e2 : ∀ x, x < C.length → I (168 + 3 * j) x = C.getD x 0) : q_C1 I j (q_F a') := by
  obtain ⟨h1, h2, h3⟩ := q_rl_ok hn h
  refine ⟨C.length, fun x => C.getD x 0, by omega, fun i hi => h2 _ (q_getDi hi), e2, e1, fun m hh f d k n' hr => ?_⟩
  have lt6 : ∀ x, x < 6 → q_m6 (q_lt m hh f d k n' x) := fun x hx => by
    obtain ⟨r1, r2, r3, r4, r5, r6⟩ := hr
    unfold q_lt
    rcases (show x = 0 ∨ x = 1 ∨ x = 2 ∨ x = 3 ∨ x = 4 ∨ x = 5 by omega) with rfl | rfl | rfl | rfl | rfl | rfl
    · rw [if_pos rfl]; exact ⟨by omega, by omega⟩
    · rw [if_neg (by decide), if_pos rfl]; exact ⟨by omega, by omega⟩
    · rw [if_neg (by decide), if_neg (by decide), if_pos rfl]; exact ⟨by omega, by omega⟩
    · rw [if_neg (by decide), if_neg (by decide), if_neg (by decide), if_pos rfl]; exact ⟨by omega, by omega⟩
    · rw [if_neg (by decide), if_neg (by decide), if_neg (by decide), if_neg (by decide), if_pos rfl]; exact ⟨by omega, by omega⟩
    · rw [if_neg (by decide), if_neg (by decide), if_neg (by decide), if_neg (by decide), if_neg (by decide)]; exact ⟨by omega, by omega⟩
  exact (h3 _ lt6).2 _ (fun _ _ => rfl)
theorem j_text1 {g : x_G} {k : Nat} {w0 : x_W} (hJ : q_J w0) : q_call g (k + 140) 121 223 [x_i 1] w0 := by
  obtain ⟨I, L, lp, tp⟩ := w0
  obtain ⟨a, hP, hC, hB, hM⟩ := hJ
  dsimp only at hC hB hM
  obtain ⟨h2, hn, hb⟩ := q_j_tape hC
  obtain ⟨r, hr⟩ : ∃ r, q_rl (I 3) (j_t a).length = some r := by
    cases e : q_rl (I 3) (j_t a).length with
    | none => exact absurd e (q_rl_tot _ hn)
    | some r => exact ⟨r, rfl⟩
  have hstr := hC.2.2.2.2.2.2.2.2.2.2.2
  have n4 := hP.2.2.2.2.1
  have hR8 := q_R8 hP
  -- the reference, full: no reading
  have full : ∀ I1, q_JC I1 lp a → q_Bk I1 (j_z a) → q_JM I1 L a → j_nl a = 4 → x_X g (k + 140) 223 [x_r 179, x_i 1] (I1, L, lp, tp) (fun rv w2 => rv = [x_i (-1)] ∧ q_J w2 ∧ w2.2.1 203 0 = L 203 0) := fun I1 C1 B1 M1 h4 => by
    have m7 : I1 179 7 = (j_nl a : Int) := M1.2.2.1
    refine x_le (show 2 ≤ k + 140 by omega) (v_textM (k := 0) ?_)
    rw [m7]
    exact ⟨by decide, fun _ => ⟨fun h => absurd rfl h, fun _ => ⟨⟨by omega, by omega⟩, fun _ => ⟨rfl, q_J_same hP C1 B1 M1, rfl⟩, fun h => absurd (by omega) h⟩⟩, fun h => absurd ⟨by decide, by decide⟩ h⟩
  refine x_le (show 112 ≤ k + 140 by omega) (v_text (k := 111) (x_le (show 110 ≤ 111 by omega) (v_fault (k := 109) ⟨by decide, fun e => absurd e (by decide), fun _ => ?_, fun e => absurd e (by decide), fun e => absurd rfl e.2.1⟩)))
  refine s_lread (by omega) rfl h2 hn hb hstr hr (fun e he I1 f1 => ⟨_, rfl, _, rfl, ?_, fun h => by omega, fun _ => ⟨_, rfl, ?_⟩⟩) (fun C a' he I1 f1 c1 => ⟨_, rfl, _, rfl, by decide, fun _ => ⟨by decide, fun e => absurd e (by decide), fun _ => ?_, fun e => absurd rfl e.2⟩, fun h => absurd rfl h⟩)
  · rw [he] at hr
    have := q_rl_er hr
    exact ⟨by omega, by omega⟩
  · obtain ⟨C1, B1, M1⟩ := q_J_sc hP hC hB hM f1 (by decide)
    by_cases h4 : j_nl a = 4
    · exact full I1 C1 B1 M1 h4
    · have m7 : I1 179 7 = (j_nl a : Int) := M1.2.2.1
      have hT := q_MT_0 (q_MT_0 (q_j_MT hC M1))
      have m6 : x_u I1 179 0 0 179 6 = ((j_t a).length : Int) := M1.1.1
      refine x_le (show 112 ≤ k + 140 by omega) (v_textM (k := 110) ?_)
      rw [m7]
      refine ⟨by decide, fun _ => ⟨fun h => absurd rfl h, fun _ => ⟨⟨by omega, by omega⟩, fun h => absurd h (by omega), fun _ => ⟨fun _ => ?_, fun e => absurd e (by decide)⟩⟩⟩, fun h => absurd ⟨by decide, by decide⟩ h⟩
      refine x_le (show 110 ≤ 110 by omega) (v_faultM (k := 108) ?_)
      rw [m6]
      refine ⟨by decide, fun _ => ⟨fun _ => ⟨fun h => absurd rfl h, fun _ => ?_⟩, fun e => absurd e (by decide)⟩, fun h => absurd ⟨by decide, by decide⟩ h⟩
      refine m_read1 (by omega) (q_LM_0 (q_LM_0 M1.2.1.2.2.2.1)) hT hr (fun e' he' hen I2 f2 e11 => ⟨rfl, fun _ => ⟨_, rfl, ?_, fun h => ?_, fun _ => ⟨rfl, ?_, rfl⟩⟩, fun e => absurd e (by decide)⟩) (fun C a' he' => by rw [he] at he'; cases he')
      · dsimp only; rw [e11]; exact ⟨by omega, by omega⟩
      · dsimp only at h; rw [e11] at h; omega
      · exact q_J_sm hP C1 B1 M1 (x_fr_trans (x_fr_u (x_fr_refl _ _) rfl) (x_fr_mono f2 (by decide))) (show x_sub q_fSm q_fSm = true by decide)
  · obtain ⟨C1, B1, M1⟩ := q_J_sc hP hC hB hM f1 (by decide)
    have e13 : I1 1 13 = (j_nl a : Int) := C1.2.2.1.1
    have m7 : I1 179 7 = (j_nl a : Int) := M1.2.2.1
    rw [he] at hr
    have hCl := (q_rl_ok hn hr).1
    refine x_le (show 3 ≤ 111 by omega) (v_addLaw (k := 1) ?_)
    rw [e13, show ((j_nl a : Int)).toNat = j_nl a by omega]
    refine ⟨⟨by omega, by omega⟩, fun c => ⟨⟨by omega, by omega⟩, ?_⟩, fun c => ⟨_, rfl, _, rfl, full I1 C1 B1 M1 (by omega)⟩⟩
    refine s_lcopy (k := 0) (by omega) c1 (by omega) (fun I2 f2 g1 g2 => ⟨rfl, ?_⟩)
    have e21 : I2 2 1 = ((j_t a).length : Int) := (f2 2 1 (by omega) (by omega)).trans (q_j_tape C1).1
    have e13' : I2 1 13 = (j_nl a : Int) := (f2 1 13 (by omega) (by omega)).trans e13
    dsimp only
    rw [e21, e13', show (j_nl a : Int) + 1 - 1 = (j_nl a : Int) by omega]
    refine ⟨⟨by omega, by omega⟩, fun _ => ⟨_, rfl, _, rfl, ?_⟩, fun h => by omega⟩
    have f3 : ∀ b x, ¬ (b = 167 + 3 * j_nl a ∧ x = 2) → ¬ b = 168 + 3 * j_nl a → ¬ (b = 2 ∧ x = 1) → ¬ (b = 1 ∧ x = 13) → x_u (x_u I2 2 1 0) 1 13 ((j_nl a : Int) + 1) b x = I1 b x := fun b x h1 h2 h3 h4 => (x_u_ne _ _ h4).trans ((x_u_ne _ _ h3).trans (f2 b x h1 h2))
    generalize hI3 : x_u (x_u I2 2 1 0) 1 13 ((j_nl a : Int) + 1) = I3 at f3 ⊢
    have g1' : I3 (167 + 3 * j_nl a) 2 = (C.length : Int) := by rw [← hI3, x_u_ne _ _ (by omega), x_u_ne _ _ (by omega)]; exact g1
    have g2' : ∀ x, x < C.length → I3 (168 + 3 * j_nl a) x = C.getD x 0 := fun x hx => by rw [← hI3, x_u_ne _ _ (by omega), x_u_ne _ _ (by omega)]; exact g2 x hx
    have l2' : I3 2 1 = 0 := by rw [← hI3]; rfl
    have l13 : I3 1 13 = ((j_nl a + 1 : Nat) : Int) := by rw [← hI3, x_u_same]; omega
    have hl := hP.2.2.2.2.2.1
    have elo : q_lw2 (fun j => if j = j_nl a then a' else j_FA a j) (j_lh a) = q_lw2 (j_FA a) (j_lh a) := by
      unfold q_lw2
      by_cases cl : j_lh a = -1
      · rw [if_pos cl, if_pos cl]
      · rw [if_neg cl, if_neg cl]
        dsimp only
        rw [if_neg (by omega)]
    have hP' : q_JP ([], a.2.1, (j_nl a + 1, (fun j => if j = j_nl a then a' else j_FA a j), j_lh a), a.2.2.2) := ⟨hP.1, hP.2.1, hP.2.2.1, hP.2.2.2.1, show j_nl a + 1 ≤ 4 by omega, show j_lh a = -1 ∨ (0 ≤ j_lh a ∧ j_lh a < ((j_nl a + 1 : Nat) : Int)) by omega, hP.2.2.2.2.2.2⟩
    have e : ∀ b x, b < 167 → ¬ (b = 2 ∧ x = 1) → ¬ (b = 1 ∧ x = 13) → I3 b x = I1 b x := fun b x h1 h2 h3 => f3 b x (by omega) (by omega) h2 h3
    have hi : ∀ b x, 179 ≤ b → I3 b x = I1 b x := fun b x hb => f3 b x (by omega) (by omega) (by omega) (by omega)
    have c1s : ∀ j, j < j_nl a + 1 → q_C1 I3 j (q_F (if j = j_nl a then a' else j_FA a j)) := fun j hj => by
      by_cases cj : j = j_nl a
      · rw [if_pos cj]; subst cj; exact q_C1_new hn hr g1' g2'
      · rw [if_neg cj]
        exact q_C1_eq (C1.2.2.1.2 j (by omega)) (fun i _ => f3 _ i (by omega) (by omega) (by omega) (by omega)) (f3 _ 2 (by omega) (by omega) (by omega) (by omega))
    have C3 : q_JC I3 lp ([], a.2.1, (j_nl a + 1, (fun j => if j = j_nl a then a' else j_FA a j), j_lh a), a.2.2.2) := by
      obtain ⟨h1, h2, ⟨h3, h4⟩, h5, h6, h7, ⟨h8, h9⟩, h10, h11, h12, h13, h14⟩ := C1
      obtain ⟨k1, k2, ⟨k3, k4⟩, k5, k6, k7, k8⟩ := h2
      have hlc := q_Lc_of (I := I3) (nl := j_nl a + 1) (lh := j_lh a) (by omega) (by omega) c1s
      rw [← h6] at hlc
      have n4r := hP.2.1.1
      have hh : ∀ b x, 5000 ≤ b → I3 b x = I1 b x := fun b x hb => hi b x (by omega)
      refine ⟨q_Tc_nil l2', ⟨q_Oc_ag hR8 k1 (fun b x hm => ?_), hlc, ⟨(e 1 15 (by omega) (by omega) (by omega)).trans k3, fun j hj x hx => (e (150 + j) x (by have : j < j_nr a := hj; omega) (by omega) (by omega)).trans (k4 j hj x hx)⟩, (e 1 16 (by omega) (by omega) (by omega)).trans k5, q_St_eq k6 (fun k _ _ => e 18 k (by omega) (by omega) (by omega)) (fun k _ => ⟨e 19 k (by omega) (by omega) (by omega), e 20 k (by omega) (by omega) (by omega)⟩), q_Ac_fr k7 (e 21 4 (by omega) (by omega) (by omega)) (e 21 5 (by omega) (by omega) (by omega)) (fun b k h1 h2 => e b k (by omega) (by omega) (by omega)), fun x => (e 23 x (by omega) (by omega) (by omega)).trans (k8 x)⟩, ⟨l13, c1s⟩, (e 1 14 (by omega) (by omega) (by omega)).trans h5, h6, (e 1 17 (by omega) (by omega) (by omega)).trans h7, ⟨(e 21 6 (by omega) (by omega) (by omega)).trans h8, fun ei => ⟨q_St_eq (h9 ei).1 (fun k _ _ => e 24 k (by omega) (by omega) (by omega)) (fun k _ => ⟨e 25 k (by omega) (by omega) (by omega), e 26 k (by omega) (by omega) (by omega)⟩), fun x hx => (e 27 x (by omega) (by omega) (by omega)).trans ((h9 ei).2 x hx)⟩⟩, q_Sx_eq h10 (fun r => e 163 r (by omega) (by omega) (by omega)) (fun r => e 164 r (by omega) (by omega) (by omega)), (e 162 6 (by omega) (by omega) (by omega)).trans h11, q_Sf_fr h12 hh, q_sta_fr h13 hh, q_str_fr (S := []) h14 hh⟩
      obtain ⟨t, m1, m2, -⟩ := (x_mem_iff _ b x).mp hm
      have hall : ∀ t ∈ q_dOc, 14 ≤ t.1 ∧ t.1 ≤ 17 := by decide
      have := hall t m1
      exact e b x (by omega) (by omega) (by omega)
    have B3 : q_Bk I3 (j_z ([], a.2.1, (j_nl a + 1, (fun j => if j = j_nl a then a' else j_FA a j), j_lh a), a.2.2.2)) := by
      have ez : j_z ([], a.2.1, (j_nl a + 1, (fun j => if j = j_nl a then a' else j_FA a j), j_lh a), a.2.2.2) = j_z a := by
        show q_zo _ _ _ (q_lw2 _ _) _ _ = _
        rw [elo]
      rw [ez]
      unfold q_Bk
      rw [e 161 1 (by omega) (by omega) (by omega), e 161 3 (by omega) (by omega) (by omega), e 161 4 (by omega) (by omega) (by omega)]
      exact B1
    have M3 : q_JM I3 L a := q_JM_ag hP M1 (fun b k hb _ => hi b k hb) (q_LM_lo M1.2.1.2.2.2.1 hi)
    have m7' : I3 179 7 = (j_nl a : Int) := M3.2.2.1
    have hT := q_MT_0 (q_MT_0 (q_j_MT hC M3))
    have m6 : x_u I3 179 0 0 179 6 = ((j_t a).length : Int) := M3.1.1
    refine x_le (show 112 ≤ k + 140 by omega) (v_textM (k := 110) ?_)
    rw [m7']
    refine ⟨by decide, fun _ => ⟨fun h => absurd rfl h, fun _ => ⟨⟨by omega, by omega⟩, fun h => absurd h (by omega), fun _ => ⟨fun _ => ?_, fun e => absurd e (by decide)⟩⟩⟩, fun h => absurd ⟨by decide, by decide⟩ h⟩
    refine x_le (show 110 ≤ 110 by omega) (v_faultM (k := 108) ?_)
    rw [m6]
    refine ⟨by decide, fun _ => ⟨fun _ => ⟨fun h => absurd rfl h, fun _ => ?_⟩, fun e => absurd e (by decide)⟩, fun h => absurd ⟨by decide, by decide⟩ h⟩
    refine m_read1 (by omega) (q_LM_0 (q_LM_0 M3.2.1.2.2.2.1)) hT hr (fun e' he' => by cases he') (fun C2 a2 he2 I4 f4 e11 => ⟨rfl, fun _ => ⟨_, rfl, ?_, fun h => ?_, fun h => ?_⟩, fun e => absurd e (by decide)⟩)
    · dsimp only; rw [e11]; decide
    · have q6 : I4 179 6 = ((j_t a).length : Int) := (f4 179 6 rfl).trans m6
      have q7 : x_u I4 179 6 0 179 7 = (j_nl a : Int) := (f4 179 7 rfl).trans m7'
      have q180 : ∀ x, x_u I4 179 6 0 180 x = I3 180 x := fun x => f4 180 x rfl
      dsimp only
      rw [q6]
      refine m_t1 (k := 110) (nl := j_nl a) hn (by omega) q7 (fun x hx => ?_) (fun I5 f5 p1 p2 p3 p4 p5 => ⟨rfl, ?_, rfl⟩)
      · rw [q180]; exact (hT.2.2.1 x hx).2
      · have ff : x_fr ([(179, 6, 7)] ++ q_fTl ++ q_fSm) I3 I5 := by
          refine x_fr_trans (x_fr_r (x_fr_trans (x_fr_u (x_fr_u (x_fr_refl _ _) rfl) rfl) (x_fr_mono f4 (by decide)))) (x_fr_l ?_)
          exact x_fr_trans (x_fr_l (x_fr_u (x_fr_refl _ _) rfl)) (x_fr_r f5)
        refine q_J_end hP' C3 B3 ff (by decide +kernel) (by decide +kernel) ?_
        obtain ⟨h1, h2, h3, h4, h5, ⟨h6, h7⟩, h8⟩ := M3
        obtain ⟨k1, k2, k3, k4, k5, ⟨k6, k7⟩, k8, k9, k10⟩ := h2
        have kn := hP.2.1.1
        have hh := x_fr_hi ff (by decide)
        have e181 : ∀ y, y < 240 * j_nl a → I5 181 y = I3 181 y := fun y hy => (p1 y hy).trans (f4 181 y rfl)
        have e182 : ∀ y, y < j_nl a → I5 182 y = I3 182 y := fun y hy => (p3 y hy).trans (f4 182 y rfl)
        refine ⟨q_Tm_nil ((f5 179 6 rfl).trans rfl), ⟨(ff 179 24 rfl).trans k1, fun k hk => (ff 184 k rfl).trans (k2 k hk), fun k hk => (ff 186 k rfl).trans (k3 k hk), ⟨show j_nl a + 1 ≤ 4 by omega, fun j hj => ?_, ?_, ?_, q_str_fr (S := []) k4.2.2.2.2 hh⟩, ?_, ⟨(ff 179 26 rfl).trans k6, fun j hj => q_Rm_s (by have : j < j_nr a := hj; omega) (k7 j hj) ff (by decide) (by decide)⟩, (ff 179 30 rfl).trans k8, fun x hx => (ff 190 x rfl).trans (k9 x hx), ⟨(ff 179 46 rfl).trans k10.1, k10.2.1, fun j hj k hk => (ff 196 _ rfl).trans (k10.2.2 j hj k hk)⟩⟩, p5, (ff 179 29 rfl).trans h4, (ff 179 31 rfl).trans h5, ⟨(ff 179 61 rfl).trans h6, fun e x hx => (ff 202 x rfl).trans (h7 e x hx)⟩, q_Sm_s h8 ff rfl (by decide)⟩
        · show q_Tx I5 j (if j = j_nl a then a' else j_FA a j)
          have hj' : j < j_nl a + 1 := hj
          by_cases cj : j = j_nl a
          · rw [if_pos cj]
            subst cj
            refine ⟨I 3, (j_t a).length, C, p4, hn, fun x hx => ?_, fun x hx => ?_, hb, hr⟩
            · rw [p2 x hx, q180]; exact (hT.2.2.1 x hx).1
            · rw [p2 x hx, q180]; exact (hT.2.2.1 x hx).2
          · rw [if_neg cj]
            obtain ⟨b, n, CC, t1, t2, t3, t4, t5, t6⟩ := k4.2.1 j (by omega)
            have e1 : ∀ x, x < n → I5 181 (240 * j + x) = I3 181 (240 * j + x) := fun x hx => e181 _ (by omega)
            exact ⟨b, n, CC, (e182 j (by omega)).trans t1, t2, fun x hx => by rw [e1 x hx]; exact t3 x hx, fun x hx => by rw [e1 x hx]; exact t4 x hx, t5, t6⟩
        · intro p hp
          obtain ⟨m1, m2⟩ := k4.2.2.1 p hp
          refine ⟨m1, ?_⟩
          rcases m2 with m2 | ⟨m, hh', f, d, kk, nn, j, o1, o2, o3, o4⟩
          · exact Or.inl m2
          · refine Or.inr ⟨m, hh', f, d, kk, nn, j, o1, show j < j_nl a + 1 by omega, o3, ?_⟩
            show I5 195 p = q_F (if j = j_nl a then a' else j_FA a j) m hh' f d kk nn
            rw [if_neg (by omega), ff 195 p rfl]
            exact o4
        · obtain ⟨l1, l2, l3, l4, l5, l6⟩ := k4.2.2.2.1
          unfold q_le
          rw [ff 183 109 rfl, ff 183 104 rfl, ff 183 102 rfl, ff 183 100 rfl, ff 183 107 rfl, ff 183 110 rfl]
          exact ⟨l1, l2, l3, l4, l5, l6⟩
        · exact q_LH_of ((ff 179 29 rfl).trans h4) (show j_lh a = -1 ∨ (0 ≤ j_lh a ∧ j_lh a < ((j_nl a + 1 : Nat) : Int)) by omega)
    · dsimp only at h; rw [e11] at h; exact absurd rfl h
