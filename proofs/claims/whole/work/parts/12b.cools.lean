/-! The reference: steps, what cools -/
theorem m_stepsTo {g : x_G} {k : Nat} {Q : x_Q} {I L : Nat → Nat → Int} {lp tp : Nat} {y : q_Y} (hY : q_Yk y) (e : ∀ k, k < 5 * q_yR y → I 186 k = q_yto y k) {f : Int} (hf : f = -1 ∨ (0 ≤ f ∧ f < (q_yR y : Int))) {t : Nat} (ht : t < q_yR y) (hq : Q [x_i (q_yst y f t)] (I, L, lp, tp)) : x_X g (k + 2) 226 [x_r 179, x_i f, x_i (t : Int)] (I, L, lp, tp) Q := by
  have hR : q_yR y ≤ 8 := by rcases hY.1.1 with q | q <;> omega
  obtain ⟨⟨a1, a2⟩, ⟨a3, a4⟩, -⟩ := hY.1.2.2 t ht
  have t0 : I 186 (5 * (t : Int) + 0).toNat = q_yto y (5 * t) := by rw [show (5 * (t : Int) + 0).toNat = 5 * t by omega]; exact e _ (by omega)
  have t1 : I 186 (5 * (t : Int) + 1).toNat = q_yto y (5 * t + 1) := by rw [show (5 * (t : Int) + 1).toNat = 5 * t + 1 by omega]; exact e _ (by omega)
  unfold q_yst q_st q_sd q_ab at hq
  refine v_stepsTo ?_
  rw [t0, t1]
  refine ⟨⟨by omega, by omega⟩, fun q => ?_, fun q => ?_⟩
  · obtain ⟨n, rfl⟩ := Int.eq_ofNat_of_zero_le (show 0 ≤ f by omega)
    obtain ⟨⟨b1, b2⟩, ⟨b3, b4⟩, -⟩ := hY.1.2.2 n (by omega)
    have f0 : I 186 (5 * (n : Int) + 0).toNat = q_yto y (5 * n) := by rw [show (5 * (n : Int) + 0).toNat = 5 * n by omega]; exact e _ (by omega)
    have f1 : I 186 (5 * (n : Int) + 1).toNat = q_yto y (5 * n + 1) := by rw [show (5 * (n : Int) + 1).toNat = 5 * n + 1 by omega]; exact e _ (by omega)
    rw [if_neg q, show ((n : Int)).toNat = n by omega] at hq
    rw [f0, f1]
    refine ⟨⟨by omega, by omega⟩, ⟨by omega, by omega⟩, ⟨by omega, by omega⟩, ⟨by omega, by omega⟩, ⟨by omega, by omega⟩, fun q2 => ⟨⟨by omega, by omega⟩, ⟨by omega, by omega⟩, ?_⟩, fun q2 => ⟨⟨by omega, by omega⟩, ⟨by omega, by omega⟩, ?_⟩⟩
    · rw [if_neg q2] at hq; exact hq
    · rw [if_pos q2] at hq; exact hq
  · rw [if_pos q] at hq
    refine ⟨⟨by omega, by omega⟩, ⟨by omega, by omega⟩, fun q2 => ⟨⟨by omega, by omega⟩, ⟨by omega, by omega⟩, ?_⟩, fun q2 => ⟨⟨by omega, by omega⟩, ⟨by omega, by omega⟩, ?_⟩⟩
    · rw [if_neg q2] at hq; exact hq
    · rw [if_pos q2] at hq; exact hq
theorem q_lt_le {m h f d k n : Int} (hr : q_lr m h f d k n) : q_m6 m ∧ q_m6 h ∧ q_m6 f ∧ q_m6 d ∧ q_m6 k ∧ q_m6 n := by
  obtain ⟨h1, h2, h3, h4, h5, h6⟩ := hr
  exact ⟨⟨by omega, by omega⟩, ⟨by omega, by omega⟩, ⟨by omega, by omega⟩, ⟨by omega, by omega⟩, ⟨by omega, by omega⟩, ⟨by omega, by omega⟩⟩
theorem q_F_m6 {I : Nat → Nat → Int} {j : Nat} {a : q_AV} (h : q_Tx I j a) {m h' f d k n : Int} (hr : q_lr m h' f d k n) : q_m6 (q_F a m h' f d k n) := by
  obtain ⟨b, n', C, a1, a2, a3, a4, a5, a6⟩ := h
  exact ((q_rl_ok a2 a6).2.2 _ (fun x _ => q_lt_m6 hr x)).1
theorem m_worthNow {g : x_G} {k : Nat} {Q : x_Q} {I L : Nat → Nat → Int} {lp tp : Nat} {FA : Nat → q_AV} {nl j : Nat} (hk : 91 ≤ k) (hL : q_LM I L FA nl) (hj : j < nl) (h29 : I 179 29 = (j : Int)) {m h f d c n : Int} (hr : q_lr m h f d c n) (e1 : I 183 109 = m) (e2 : I 183 104 = h) (e3 : I 183 102 = f) (e4 : I 183 100 = d) (e5 : I 183 107 = c) (e6 : I 183 110 = n) (hq : ∀ I' L' tp', x_fr q_fC I I' → q_Lo L L' → q_LM I' L' FA nl → Q [x_i (q_F (FA j) m h f d c n)] (I', L', lp, tp')) : x_X g k 229 [x_r 179] (I, L, lp, tp) Q := by
  obtain ⟨k, rfl⟩ : ∃ k', k = k' + 1 := ⟨k - 1, by omega⟩
  have hL' := hL
  obtain ⟨g1, g2, g3, g4, g5⟩ := hL
  have hj4 : j < 4 := by omega
  have hky := q_lr_key hr hj4
  obtain ⟨l1, l2, l3, l4, l5, l6⟩ := q_lt_le hr
  have hp : 0 ≤ Int.tmod (q_key m h f d c n j) 8191 ∧ Int.tmod (q_key m h f d c n j) 8191 < 8191 := by
    rw [Int.tmod_eq_emod_of_nonneg (by omega)]; omega
  obtain ⟨P, hP⟩ := Int.eq_ofNat_of_zero_le hp.1
  have hP8 : P < 8191 := by omega
  obtain ⟨m1, m2⟩ := g3 P hP8
  refine v_worthNow ?_
  rw [e1, e2, e3]
  refine ⟨⟨by omega, by omega⟩, ⟨by omega, by omega⟩, ⟨by omega, by omega⟩, v_worthNow_L26 ?_⟩
  rw [e4, e5]
  refine ⟨⟨by omega, by omega⟩, ⟨by omega, by omega⟩, v_worthNow_L46 ?_⟩
  rw [e6, h29]
  refine ⟨⟨by omega, by omega⟩, ⟨by omega, by omega⟩, ?_⟩
  show x_S g (k + 1) 229 Q 66 [x_r 179, x_l (q_key m h f d c n j), x_n, x_n] [] (I, L, lp, tp)
  refine v_worthNow_L66 ⟨⟨by omega, by omega⟩, v_worthNow_L71 ?_⟩
  rw [hP, show ((P : Int)).toNat = P by omega, h29]
  obtain ⟨-, -, -, -, c5, c6⟩ := x_cmpl (x := L 194 P) (y := q_key m h f d c n j)
  refine ⟨⟨by omega, by omega⟩, m1, ⟨by omega, by omega⟩, c6, fun q => ⟨⟨by omega, by omega⟩, ?_⟩, fun q => ?_⟩
  · obtain ⟨b, n', C, a1, a2, a3, a4, a5, a6⟩ := g2 j hj
    rw [show ((j : Int)).toNat = j by omega, a1]
    refine m_goThrough (lt := q_lt m h f d c n) (beg := 240 * j) (fun x _ => q_lt_m6 hr x) (by omega) a6 (Or.inr rfl) a2 (by rw [if_neg (by decide)]; omega) a3 a4 a5 ⟨e1, e2, e3, e4, e5, e6⟩ g5 (fun e he => (by cases he)) (fun C' a' he I' f' h11 h14 => ?_)
    cases he
    refine ⟨rfl, ?_⟩
    dsimp only
    rw [h14]
    have fr : x_fr q_fC I (x_u I' 195 P (((FA j) (q_lt m h f d c n)).getD 0)) := x_fr_u (x_fr_mono f' rfl) (x_memI (195, 0, 8191) (by simp) rfl (by simp) (by simp; omega))
    refine hq _ _ _ fr (fun a k ha => x_u_ne _ _ (by omega)) ⟨g1, fun i hi => ?_, fun p hp8 => ?_, ?_, ?_⟩
    · obtain ⟨b', n'', C', b1, b2, b3, b4, b5, b6⟩ := g2 i hi
      have e181 : ∀ x, (x_u I' 195 P (((FA j) (q_lt m h f d c n)).getD 0)) 181 x = I 181 x := fun x => fr 181 x rfl
      exact ⟨b', n'', C', (fr 182 i rfl).trans b1, b2, fun x hx => by rw [e181]; exact b3 x hx, fun x hx => by rw [e181]; exact b4 x hx, b5, b6⟩
    · by_cases z : p = P
      · subst z
        rw [x_u_same, x_u_same]
        exact ⟨⟨by omega, by omega⟩, Or.inr ⟨m, h, f, d, c, n, j, hr, hj, rfl, rfl⟩⟩
      · rw [x_u_ne _ _ (fun w => z w.2), x_u_ne _ _ (fun w => z w.2), f' 195 p rfl]
        exact g3 p hp8
    · have e183 : ∀ x, (x_u I' 195 P (((FA j) (q_lt m h f d c n)).getD 0)) 183 x = I 183 x := fun x => (x_u_ne _ _ (by omega)).trans (f' 183 x rfl)
      unfold q_le
      rw [e183, e183, e183, e183, e183, e183]
      exact g4
    · refine q_str_fr (S := []) g5 (fun a x ha => ?_)
      rw [x_u_ne _ _ (by omega)]
      refine f' a x ?_
      cases e : x_mem q_fH a x with
      | false => rfl
      | true =>
        obtain ⟨t, h1, h2, -⟩ := (x_mem_iff _ a x).mp e
        simp at h1
        rcases h1 with rfl | rfl <;> simp at h2 <;> omega
  · rcases m2 with z | ⟨m', h', f', d', c', n', j', hr', hj', ek, ev⟩
    · have := c5.mp q; omega
    · have hkk : q_key m h f d c n j = q_key m' h' f' d' c' n' j' := (c5.mp q).symm.trans ek
      obtain ⟨rfl, rfl, rfl, rfl, rfl, rfl, rfl⟩ := q_key_inj hr hj4 hr' (by omega) hkk
      rw [ev]
      exact hq _ _ _ (x_fr_refl _ _) (fun _ _ _ => rfl) hL'
theorem m_cools {g : x_G} {k : Nat} {Q : x_Q} {I L : Nat → Nat → Int} {lp tp : Nat} {y : q_Y} {FA : Nat → q_AV} {nl : Nat} (hk : 93 ≤ k) (hY : q_Yk y) (hm : q_Ym I L y FA nl) {t : Nat} (ht : t < q_yR y) {m h d c n : Int} (hr : q_lr m h (q_yto y (5 * t)) d c n) (hq : ∀ I' L' tp', x_fr q_fC I I' → q_Lo L L' → q_LM I' L' FA nl → Q [x_i (max 0 (min 99 (q_v (q_yru y) (q_ylo y) m h (q_yto y (5 * t)) d c n)))] (I', L', lp, tp')) : x_X g k 228 [x_r 179, x_i m, x_i h, x_i (t : Int), x_i d, x_i c, x_i n] (I, L, lp, tp) Q := by
  obtain ⟨k, rfl⟩ : ∃ k', k = k' + 2 := ⟨k - 2, by omega⟩
  obtain ⟨y1, y2, y3, y4, y5, y6, y7⟩ := hm
  have hR : q_yR y ≤ 8 := by rcases hY.1.1 with q | q <;> omega
  have t0 : I 186 (5 * (t : Int) + 0).toNat = q_yto y (5 * t) := by rw [show (5 * (t : Int) + 0).toNat = 5 * t by omega]; exact y3 _ (by omega)
  refine v_cools ?_
  rw [t0, y2 1 (by decide)]
  rcases y7 with ⟨e29, elo⟩ | ⟨j, hj, e29, elo⟩
  · rw [e29]
    rw [elo] at hq
    obtain ⟨-, ⟨r1, r2⟩, -⟩ := hY.1.2.1 (by omega)
    have hml : 0 ≤ m * q_yru y 1 ∧ m * q_yru y 1 ≤ 200 * 9 := ⟨Int.mul_nonneg hr.1.1 r1, Int.mul_le_mul hr.1.2 r2 r1 (by decide)⟩
    exact ⟨by decide, fun _ => ⟨⟨by omega, by omega⟩, ⟨by omega, by omega⟩, hq I L tp (x_fr_refl _ _) (fun _ _ _ => rfl) y6⟩, fun q => absurd rfl q⟩
  · rw [e29]
    rw [elo] at hq
    refine ⟨⟨by omega, by have := y6.1; omega⟩, fun q => by omega, fun _ => ⟨⟨by omega, by omega⟩, ?_⟩⟩
    obtain ⟨l1, l2, l3, l4, l5, l6⟩ := q_lt_le hr
    obtain ⟨g1, g2, g3, g4, g5⟩ := y6
    have fr : x_fr q_fC I (x_u (x_u (x_u (x_u (x_u (x_u I 183 109 m) 183 104 h) 183 102 (q_yto y (5 * t))) 183 100 d) 183 107 c) 183 110 n) := x_fr_u (x_fr_u (x_fr_u (x_fr_u (x_fr_u (x_fr_u (x_fr_refl _ _) rfl) rfl) rfl) rfl) rfl) rfl
    have hv := q_F_m6 (g2 j hj) hr
    refine m_worthNow (FA := FA) (nl := nl) (j := j) (by omega) ⟨g1, g2, g3, ⟨l1, l2, l3, l4, l5, l6⟩, g5⟩ hj e29 hr rfl rfl rfl rfl rfl rfl (fun I' L' tp' f' hL' hM' => ⟨_, rfl, ⟨by omega, by omega⟩, ⟨by omega, by omega⟩, ?_⟩)
    exact hq I' L' tp' (x_fr_trans fr f') hL' hM'
