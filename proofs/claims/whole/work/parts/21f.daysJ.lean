/-! day, decades, undo, image, back, at J -/
theorem j_day {g : x_G} {k : Nat} {w0 : x_W} (hJ : q_J w0) : q_call g (k + 140) 132 243 [] w0 := by
  obtain ⟨I, L, lp, tp⟩ := w0
  obtain ⟨a, hP, hC, hB, hM⟩ := hJ
  dsimp only at hC hB hM
  obtain ⟨D, hN, hL⟩ := q_Hk_d hP.2.2.2.1
  have hZ := q_j_Zk hP
  refine x_le (show 17 ≤ k + 140 by omega) (c_day (k := 0) hP.1 hP.2.1 hC.2.1 hN (fun c => ⟨_, rfl, ?_⟩) (fun c1 c2 I1 f1 b1 K1 => ⟨_, rfl, ?_⟩))
  · exact x_le (show 101 ≤ k + 140 by omega) (m_day (k := 100) (by omega) hP.1 hP.2.1 hM.2.1 hN hL.2.1 (fun _ => ⟨rfl, q_J_same hP hC hB hM, rfl⟩) (fun c1 c2 => by omega))
  · have hH := q_Hk_day (z := j_z a) hP.2.2.2.1 hZ rfl hN.2.2.2.2.2.2.1 c2 hN hL
    have hP' := q_JP_v (v := (q_zn (j_z a) (q_vN (j_v a)), q_h1 (q_vH (j_v a)) (q_vn (j_v a)) (q_vN (j_v a)), min 40 (q_vn (j_v a) + 1), q_lgD (j_z a) D (q_vl (j_v a)), q_vr (j_v a))) hP hH hP.2.1
    have C1 := q_JC_v hP hC (x_fr_mono f1 (by decide +kernel)) K1
    have M1 := q_JM_lo hP hM f1 (by decide +kernel)
    exact x_le (show 101 ≤ k + 140 by omega) (m_day (k := 100) (by omega) hP.1 hP.2.1 M1.2.1 hN hL.2.1 (fun c => by omega) (fun _ _ I2 L2 tp2 f2 l2 K2 => ⟨rfl, q_J_end hP' C1 (Or.inl b1) f2 (by decide +kernel) (by decide +kernel) (q_JM_v M1 f2 (K2 _)), l2 203 0 (by decide)⟩))
theorem q_di_k {R : Nat} {ru to : Nat → Int} {lo : Option q_F6} {nr : Nat} {RD : Nat → Nat → Int} {wb : Int} (hW : q_Wo R ru to) (h0 : ¬ R = 0) : ∀ (m : Nat) (x : Int) (v : q_V) (D : Nat), D + m ≤ 9999 → q_Rk nr RD (q_vr v) → q_Nk R (q_vN v) D → q_Hk R (q_vN v) (q_vH v) (q_vn v) (q_vl v) → q_Rk nr RD (q_vr (q_di R ru to lo nr RD wb m x v)) ∧ q_Hk R (q_vN (q_di R ru to lo nr RD wb m x v)) (q_vH (q_di R ru to lo nr RD wb m x v)) (q_vn (q_di R ru to lo nr RD wb m x v)) (q_vl (q_di R ru to lo nr RD wb m x v))
  | 0, _, v, D => fun _ hr _ hH => ⟨hr, hH⟩
  | m + 1, x, v, D => fun hD hr hN hH => by
    have kk := q_ds_k (lo := lo) (wb := wb) (x := x) hW h0 hr (show D < 9999 by omega) hN hH
    exact q_di_k hW h0 m (q_dx nr x) (q_ds R ru to lo nr RD wb x v) (D + 1) (by omega) (q_dr_k hr) kk.1 kk.2
theorem j_decades {g : x_G} {k : Nat} {w0 : x_W} (hJ : q_J w0) {n s : Int} (hn : x_rg n) : q_call g (k + 140) 137 249 [x_i n, x_l s] w0 := by
  obtain ⟨I, L, lp, tp⟩ := w0
  obtain ⟨a, hP, hC, hB, hM⟩ := hJ
  dsimp only at hC hB hM
  obtain ⟨D, hN, hL⟩ := q_Hk_d hP.2.2.2.1
  refine x_le (show 17 ≤ k + 140 by omega) (c_decades (k := 0) (wb := j_wb a) hP.1 hP.2.2.1 hC.2.2.2.2.2.1 hP.2.1 hC.2.1 hN hP.2.2.2.1 hn (fun c => ⟨_, rfl, ?_⟩) (fun c1 c2 c3 c4 I1 f1 b1 K1 => ⟨_, rfl, ?_⟩))
  · exact x_le (show 102 ≤ k + 140 by omega) (m_decades (k := 100) (wb := j_wb a) (by omega) hP.1 hP.2.2.1 hM.2.2.2.2.1 hP.2.1 hM.2.1 hN hP.2.2.2.1 hn (fun _ => ⟨rfl, q_J_same hP hC hB hM, rfl⟩) (fun c1 c2 c3 c4 => absurd ⟨c1, c2, c3, c4⟩ c))
  · have kk := q_di_k (lo := j_lo a) (wb := j_wb a) (RD := j_RD a) hP.1 c1 n.toNat s (j_v a) D (by omega) hP.2.1 hN hP.2.2.2.1
    have hP' := q_JP_v hP kk.2 kk.1
    have C1 := q_JC_v hP hC (x_fr_mono f1 (by decide +kernel)) K1
    have M1 := q_JM_lo hP hM f1 (by decide +kernel)
    exact x_le (show 102 ≤ k + 140 by omega) (m_decades (k := 100) (wb := j_wb a) (by omega) hP.1 hP.2.2.1 M1.2.2.2.2.1 hP.2.1 M1.2.1 hN hP.2.2.2.1 hn (fun c => absurd ⟨c1, c2, c3, c4⟩ c) (fun _ _ _ _ I2 L2 tp2 f2 l2 K2 => ⟨rfl, q_J_end hP' C1 (Or.inl b1) f2 (by decide +kernel) (by decide +kernel) (q_JM_v M1 f2 K2), l2 203 0 (by decide) (by decide)⟩))
theorem j_undo {g : x_G} {k : Nat} {w0 : x_W} (hJ : q_J w0) : q_call g (k + 140) 140 250 [] w0 := by
  obtain ⟨I, L, lp, tp⟩ := w0
  obtain ⟨a, hP, hC, hB, hM⟩ := hJ
  dsimp only at hC hB hM
  have hR := q_R8 hP
  refine x_le (show 4 ≤ k + 140 by omega) (c_undo (k := 0) hC.2.1.2.2.2.2.2.1 (fun c => ⟨_, rfl, ?_⟩) (fun m em I1 f1 b1 n1 a1 => ⟨_, rfl, ?_⟩))
  · exact x_le (show 1 ≤ k + 140 by omega) (m_undo (k := 0) hM.2.1.2.2.2.2.2.2.2.2 (fun _ => ⟨rfl, q_J_same hP hC hB hM, rfl⟩) (fun m em => by omega))
  · have hH0 := hP.2.2.2.1
    rw [em] at hH0
    have hP' := q_JP_v (v := (q_vH (j_v a) m, q_vH (j_v a), m, q_vl (j_v a), q_vr (j_v a))) hP (q_Hk_undo hH0) hP.2.1
    have K1 : q_Kc I1 lp (j_R a) (j_ru a) (j_to a) (j_lo a) (j_nr a) (j_RD a) (q_vH (j_v a) m, q_vH (j_v a), m, q_vl (j_v a), q_vr (j_v a)) := q_Kc_ag hR hP.2.1.1 hC.2.1 (x_fr_ag f1 (by decide)) ((f1 1 16 rfl).trans hC.2.1.2.2.2.1) n1 a1 (fun x => (f1 23 x rfl).trans (hC.2.1.2.2.2.2.2.2 x))
    have C1 := q_JC_v hP hC (x_fr_mono f1 (by decide +kernel)) K1
    have M1 := q_JM_lo hP hM f1 (by decide)
    refine x_le (show 1 ≤ k + 140 by omega) (m_undo (k := 0) M1.2.1.2.2.2.2.2.2.2.2 (fun c => by omega) (fun m' em' I2 f2 n2 a2 => ⟨?_, ?_, rfl⟩))
    · rw [show m' = m by omega]
    · have e : m' = m := by omega
      subst e
      exact q_J_end hP' C1 (Or.inl b1) f2 (by decide +kernel) (by decide +kernel) (q_JM_v M1 (x_fr_mono f2 (by decide)) (q_Km_eq M1.2.1 (f2 _ _ rfl) (f2 _ _ rfl) (f2 _ _ rfl) (fun k => f2 184 k rfl) (fun k => f2 186 k rfl) (fun k => f2 188 k rfl) (fun k => f2 189 k rfl) (q_LM_S f2 (by decide) M1.2.1.2.2.2.1) ((f2 _ _ rfl).trans M1.2.1.2.2.2.2.2.2.1) n2 a2))
theorem j_image {g : x_G} {k : Nat} {w0 : x_W} (hJ : q_J w0) : q_call g (k + 140) 142 283 [] w0 := by
  obtain ⟨I, L, lp, tp⟩ := w0
  obtain ⟨a, hP, hC, hB, hM⟩ := hJ
  dsimp only at hC hB hM
  have hR := q_R8 hP
  have n4 := hP.2.2.2.2.1
  obtain ⟨D, hN, hL⟩ := q_Hk_d hP.2.2.2.1
  refine x_le (show 4 ≤ k + 140 by omega) (c_image (k := 0) hR hC.2.1.1.1 hC.2.1.2.2.2.2.1 (fun c => ⟨_, rfl, ?_⟩) (fun c I1 f1 n1 l1 b1 => ⟨_, rfl, ?_⟩))
  · exact x_le (show 1 ≤ k + 140 by omega) (m_image (k := 0) hR hM.2.1.1 (fun _ => ⟨rfl, q_J_same hP hC hB hM, rfl⟩) (fun c' => absurd c c'))
  · have hP' : q_JP (a.1, a.2.1, a.2.2.1, a.2.2.2.1, a.2.2.2.2.1, a.2.2.2.2.2.1, (1, q_vN (j_v a), q_vl (j_v a)), a.2.2.2.2.2.2.2) := ⟨hP.1, hP.2.1, hP.2.2.1, hP.2.2.2.1, n4, hP.2.2.2.2.2.1, Or.inr ⟨rfl, D, hN, hL⟩, hP.2.2.2.2.2.2.2⟩
    have hi := x_fr_hi f1 (by decide)
    have C1 : q_JC I1 lp (a.1, a.2.1, a.2.2.1, a.2.2.2.1, a.2.2.2.2.1, a.2.2.2.2.2.1, (1, q_vN (j_v a), q_vl (j_v a)), a.2.2.2.2.2.2.2) := by
      obtain ⟨h1, h2, ⟨h3, h4⟩, h5, h6, h7, ⟨h8, h9⟩, h10, h11, h12, h13, h14⟩ := hC
      exact ⟨q_Tc_x h1 (f1 2 1 rfl) (fun k => f1 3 k rfl), q_Kc_s hR hP.2.1.1 h2 f1 (by decide) (by decide), ⟨(f1 1 13 rfl).trans h3, fun j hj => q_C1_s (by have : j < j_nl a := hj; omega) (h4 j hj) f1 (by decide)⟩, (f1 1 14 rfl).trans h5, h6, (f1 1 17 rfl).trans h7, ⟨b1, fun _ => ⟨n1, fun x hx => (l1 x hx).trans (h2.2.2.2.2.2.2 x)⟩⟩, q_Sx_s h10 f1 (by decide), (f1 162 6 rfl).trans h11, q_Sf_fr h12 hi, q_sta_fr h13 hi, q_str_fr (S := []) h14 hi⟩
    have M1 := q_JM_lo hP hM f1 (by decide)
    have hB' : q_Bk I1 (j_z a) := by
      unfold q_Bk
      rw [f1 161 1 rfl, f1 161 3 rfl, f1 161 4 rfl]
      exact hB
    have e := M1.2.1.2.2.2.2.2.2.2.1
    refine x_le (show 1 ≤ k + 140 by omega) (m_image (k := 0) hR M1.2.1.1 (fun c' => absurd c' c) (fun _ I2 f2 n2 b2 => ⟨?_, ?_, rfl⟩))
    · rw [e 28 (by omega)]
    · refine q_J_end hP' C1 hB' f2 (by decide +kernel) (by decide +kernel) ?_
      obtain ⟨h1, h2, h3, h4, h5, ⟨h6, h7⟩, h8⟩ := M1
      exact ⟨⟨(f2 179 6 rfl).trans h1.1, h1.2.1, fun k hk => (f2 180 k rfl).trans (h1.2.2.1 k hk), h1.2.2.2⟩, q_Km_s h2 f2 (by decide) (by decide), (f2 179 7 rfl).trans h3, (f2 179 29 rfl).trans h4, (f2 179 31 rfl).trans h5, ⟨b2, fun _ x hx => (n2 x hx).trans (e x hx)⟩, q_Sm_s h8 f2 rfl (by decide)⟩
theorem q_Lr_cg {lg lg' N : Nat → Int} {D : Nat} (h : q_Lr lg N D) (e : ∀ x, x < 300 → lg' x = lg x) : q_Lr lg' N D := ⟨h.1, h.2.1, fun i w h1 h2 => (e _ (by omega)).trans (h.2.2 i w h1 h2)⟩
theorem j_back {g : x_G} {k : Nat} {w0 : x_W} (hJ : q_J w0) : q_call g (k + 140) 143 284 [] w0 := by
  obtain ⟨I, L, lp, tp⟩ := w0
  obtain ⟨a, hP, hC, hB, hM⟩ := hJ
  dsimp only at hC hB hM
  have hR := q_R8 hP
  have him : j_im a = 0 ∨ j_im a = 1 := by
    rcases hP.2.2.2.2.2.2.1 with h | h
    · exact Or.inl h
    · exact Or.inr h.1
  have hCi := hC.2.2.2.2.2.2.1
  have hMi := hM.2.2.2.2.2.1
  refine x_le (show 4 ≤ k + 140 by omega) (c_back (k := 0) hCi.1 him (fun c => ⟨_, rfl, ?_⟩) (fun c I1 f1 n1 l1 u1 b1 => ⟨_, rfl, ?_⟩))
  · exact x_le (show 1 ≤ k + 140 by omega) (m_back (k := 0) (by rw [hMi.1]; exact him) (fun _ => ⟨rfl, q_J_same hP hC hB hM, rfl⟩) (fun c' => by rw [hMi.1, c] at c'; exact absurd c' (by decide)))
  · obtain ⟨D, hN, hL⟩ : ∃ D, q_Nk (j_R a) (j_M a) D ∧ q_Lr (j_li a) (j_M a) D := by
      rcases hP.2.2.2.2.2.2.1 with h | h
      · rw [c] at h; exact absurd h (by decide)
      · exact h.2
    have ci := hCi.2 c
    have hH : q_Hk (j_R a) (j_M a) (q_vH (j_v a)) 0 (fun x => if x < 300 then j_li a x else q_vl (j_v a) x) := ⟨by omega, fun _ => D, fun j hj => absurd hj (by omega), hN, q_Lr_cg hL (fun x hx => if_pos hx), fun j hj => absurd hj (by omega)⟩
    have hP' := q_JP_v (v := (j_M a, q_vH (j_v a), 0, (fun x => if x < 300 then j_li a x else q_vl (j_v a) x), q_vr (j_v a))) hP hH hP.2.1
    obtain ⟨nx, x1, x2, x3, x4, x5⟩ := hC.2.1.2.2.2.2.2.1
    have K1 : q_Kc I1 lp (j_R a) (j_ru a) (j_to a) (j_lo a) (j_nr a) (j_RD a) (j_M a, q_vH (j_v a), 0, (fun x => if x < 300 then j_li a x else q_vl (j_v a) x), q_vr (j_v a)) := q_Kc_ag hR hP.2.1.1 hC.2.1 (x_fr_ag f1 (by decide)) ((f1 1 16 rfl).trans hC.2.1.2.2.2.1) (n1 _ ci.1) ⟨nx, x1, (f1 21 4 rfl).trans x2, u1, Nat.zero_le _, fun j hj => absurd hj (Nat.not_lt_zero j)⟩ (fun x => by
      show I1 23 x = if x < 300 then j_li a x else q_vl (j_v a) x
      by_cases hx : x < 300
      · rw [if_pos hx, l1 x hx]; exact ci.2 x hx
      · rw [if_neg hx]
        refine (f1 23 x ?_).trans (hC.2.1.2.2.2.2.2.2 x)
        cases e : x_mem q_fI3 23 x with
        | false => rfl
        | true =>
          obtain ⟨t, m1, m2, m3, m4⟩ := (x_mem_iff _ 23 x).mp e
          have hall : ∀ t ∈ q_fI3, t.1 = 23 → t.2.2 ≤ 300 := by decide
          have := hall t m1 m2.symm
          omega)
    have C1 := q_JC_v hP hC (x_fr_mono f1 (by decide +kernel)) K1
    have M1 := q_JM_lo hP hM f1 (by decide)
    have m61 := M1.2.2.2.2.2.1.1
    have m202 := M1.2.2.2.2.2.1.2 c
    have e24 : I 24 7 = j_M a 28 := ci.1.2.2.2.2.2.2
    rw [e24]
    refine x_le (show 1 ≤ k + 140 by omega) (m_back (k := 0) (by rw [m61]; exact him) (fun c' => by rw [m61, c] at c'; exact absurd c' (by decide)) (fun _ I2 f2 n2 u2 => ⟨?_, ?_, rfl⟩))
    · rw [m202 28 (by omega)]
    · exact q_J_end hP' C1 (Or.inl b1) f2 (by decide +kernel) (by decide +kernel) (q_JM_v M1 (x_fr_mono f2 (by decide)) (q_Km_eq M1.2.1 (f2 _ _ rfl) (f2 _ _ rfl) (f2 _ _ rfl) (fun k => f2 184 k rfl) (fun k => f2 186 k rfl) (fun k => f2 188 k rfl) (fun k => f2 189 k rfl) (q_LM_S f2 (by decide) M1.2.1.2.2.2.1) ((f2 _ _ rfl).trans M1.2.1.2.2.2.2.2.2.1) (fun x hx => (n2 x hx).trans (m202 x hx)) ⟨u2, Nat.zero_le _, fun j hj => absurd hj (Nat.not_lt_zero j)⟩))
