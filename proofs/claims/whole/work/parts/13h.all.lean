/-! all -/
def q_lostN (R b : Nat) : Nat := (2 ^ R - 1) &&& (255 - b)
theorem q_lostN_and {R b : Nat} (hR : R ≤ 8) (hb : b < 256) : x_and ((2 ^ R - 1 : Nat) : Int) (x_xor (b : Int) (-1)) = ((q_lostN R b : Nat) : Int) := by
  have : ∀ R : Fin 9, ∀ b : Fin 256, x_and ((2 ^ R.val - 1 : Nat) : Int) (x_xor ((b.val : Nat) : Int) (-1)) = ((q_lostN R.val b.val : Nat) : Int) := by decide +kernel
  exact this ⟨R, by omega⟩ ⟨b, hb⟩
theorem q_lostN_bit {R b : Nat} (hb : b < 256) {r : Nat} (hr : r < 8) : (q_lostN R b).testBit r = (decide (r < R) && !b.testBit r) := by
  unfold q_lostN
  rw [Nat.testBit_and, q_every_bit]
  have : ∀ b : Fin 256, ∀ r : Fin 8, (255 - b.val).testBit r.val = !b.val.testBit r.val := by decide +kernel
  rw [this ⟨b, hb⟩ ⟨r, hr⟩]
theorem q_eq8 {a b : Nat} (ha : a < 256) (hb : b < 256) (h : ∀ r, r < 8 → a.testBit r = b.testBit r) : a = b := by
  refine Nat.eq_of_testBit_eq (fun r => ?_)
  rcases Nat.lt_or_ge r 8 with q | q
  · exact h r q
  · have p : 256 ≤ 2 ^ r := Nat.pow_le_pow_right (n := 2) (by decide) q
    rw [Nat.testBit_lt_two_pow (by omega), Nat.testBit_lt_two_pow (by omega)]
theorem q_lost_N {z : q_Z} (hZ : q_Zk z) {v : Int} (h : q_lost (q_zy z) (q_zs z) v) : v = ((q_lostN (q_yR (q_zy z)) (q_sb (q_zs z)) : Nat) : Int) := by
  obtain ⟨l, rfl, hl, hb⟩ := h
  have hs := (q_zs_ok hZ).2.2.2.2.2.2.2.2.2.2
  rw [q_eq8 hl (show q_lostN _ _ < 256 from Nat.lt_of_le_of_lt Nat.and_le_right (by omega)) (fun r hr => by rw [hb r hr, q_lostN_bit hs hr])]
def q_cold (z : q_Z) : Nat → Nat → Int → Int
  | 0, _, b => b
  | m + 1, k, b => q_cold z m (k + 1) (if (q_sb (q_zs z)).testBit k = true ∧ (b = -1 ∨ q_sH (q_zs z) k < q_sH (q_zs z) b.toNat) then (k : Int) else b)
def q_ic (fr : Nat → Int) : Nat → Nat → Nat → Nat
  | 0, _, a => a
  | m + 1, k, a => q_ic fr m (k + 1) (if 3 ≤ fr k then a ||| 2 ^ k else a)
def q_aAll (z : q_Z) (fr : Nat → Int) (w : Int) : Int := if q_yR (q_zy z) = 0 then -1 else if w = 0 then q_sc (q_zs z) else if w = 1 then q_sf2 (q_ywk (q_zy z)) (q_yR (q_zy z)) 0 - q_sq (q_zs z) else if w = 2 then q_sm (q_zs z) else if w = 3 then q_cold z (q_yR (q_zy z)) 0 (-1) else if w = 4 then ((q_lostN (q_yR (q_zy z)) (q_sb (q_zs z)) : Nat) : Int) else if w = 5 then ((q_ic fr (q_yR (q_zy z)) 0 0 : Nat) : Int) else -1
theorem c_cold_L {g : x_G} {k : Nat} {Q : x_Q} {I L : Nat → Nat → Int} {lp tp : Nat} {z : q_Z} (hZ : q_Zk z) (hc : q_ZC I lp z) (W : q_Wc I (q_zs z) (q_zv z)) : ∀ (m i : Nat) (b : Int), i + m = q_yR (q_zy z) → q_bok z b i → Q [x_i (q_cold z m i b)] (I, L, lp, tp) → x_S g (k + 2) 160 Q 4 [x_r 1, x_i b, x_i (i : Int)] [] (I, L, lp, tp)
  | 0, i, b, hm, hb, hq => by
    have hR := q_ZR hZ
    refine v_coldest_L4 ?_
    rw [q_ZC_R hc]
    exact ⟨⟨by omega, by omega⟩, ⟨by omega, by omega⟩, fun _ => hq, fun q => by omega⟩
  | m + 1, i, b, hm, hb, hq => by
    have hR := q_ZR hZ
    rw [q_cold] at hq
    obtain ⟨a1, a2, a3⟩ := q_Wc_at hZ W i (by omega)
    have stay : ¬ ((q_sb (q_zs z)).testBit i = true ∧ (b = -1 ∨ q_sH (q_zs z) i < q_sH (q_zs z) b.toNat)) → x_S g (k + 2) 160 Q 4 [x_r 1, x_i b, x_i ((i : Int) + 1)] [] (I, L, lp, tp) := by
      intro h
      rw [if_neg h] at hq
      refine c_cold_L hZ hc W m (i + 1) b (by omega) ?_ hq
      rcases hb with e | ⟨n, e, hn, hbit⟩
      · exact Or.inl e
      · exact Or.inr ⟨n, e, by omega, hbit⟩
    have take : ((q_sb (q_zs z)).testBit i = true ∧ (b = -1 ∨ q_sH (q_zs z) i < q_sH (q_zs z) b.toNat)) → x_S g (k + 2) 160 Q 4 [x_r 1, x_i (i : Int), x_i ((i : Int) + 1)] [] (I, L, lp, tp) := by
      intro h
      rw [if_pos h] at hq
      exact c_cold_L hZ hc W m (i + 1) (i : Int) (by omega) (Or.inr ⟨i, rfl, by omega, h.1⟩) hq
    refine v_coldest_L4 ?_
    rw [q_ZC_R hc, a2, show ((i : Int)).toNat = i by omega]
    refine ⟨⟨by omega, by omega⟩, ⟨by omega, by omega⟩, fun q => by omega, fun q => ⟨a1, ⟨by omega, by omega⟩, fun c => ?_, fun c => stay (fun h => c h.1)⟩⟩
    obtain ⟨-, -, h1, h2⟩ := (q_zs_rg hZ).1 i c
    rw [(a3 c).2.1]
    rcases hb with rfl | ⟨n, rfl, hn, hbit⟩
    · exact ⟨by decide, fun _ => take ⟨c, Or.inl rfl⟩, fun h => absurd rfl h⟩
    · obtain ⟨-, -, b3⟩ := q_Wc_at hZ W n (by omega)
      obtain ⟨-, -, g1, g2⟩ := (q_zs_rg hZ).1 n hbit
      rw [show ((n : Int)).toNat = n by omega] at *
      rw [(b3 hbit).2.1]
      exact ⟨⟨by omega, by omega⟩, fun h => by omega, fun _ => ⟨⟨by omega, by omega⟩, ⟨by omega, by omega⟩, ⟨by omega, by omega⟩, ⟨by omega, by omega⟩, fun c3 => stay (fun h => by have := h.2; omega), fun c3 => take ⟨c, Or.inr c3⟩⟩⟩
theorem c_ice_L {g : x_G} {k : Nat} {Q : x_Q} {I L : Nat → Nat → Int} {lp tp R : Nat} {fr : Nat → Int} (hR : R ≤ 8) (e14 : I 14 3 = (R : Int)) (hfr : ∀ r, r < R → I 20 r = fr r ∧ 0 ≤ fr r ∧ fr r ≤ 9) : ∀ (m i a : Nat), i + m = R → a < 256 → Q [x_i ((q_ic fr m i a : Nat) : Int)] (I, L, lp, tp) → x_S g (k + 1) 161 Q 4 [x_r 1, x_i (a : Int), x_i (i : Int)] [] (I, L, lp, tp)
  | 0, i, a, hm, ha, hq => by
    refine v_ice_L4 ?_
    rw [e14]
    exact ⟨⟨by omega, by omega⟩, ⟨by omega, by omega⟩, fun _ => hq, fun q => by omega⟩
  | m + 1, i, a, hm, ha, hq => by
    rw [q_ic] at hq
    obtain ⟨f1, f2, f3⟩ := hfr i (by omega)
    obtain ⟨o1, o2⟩ := q_or1 a i ha (by omega)
    refine v_ice_L4 ?_
    rw [e14, show ((i : Int)).toNat = i by omega, f1, o1]
    refine ⟨⟨by omega, by omega⟩, ⟨by omega, by omega⟩, fun q => by omega, fun q => ⟨⟨by omega, by omega⟩, ⟨by omega, by omega⟩, fun c => ?_, fun c => ?_⟩⟩
    · rw [if_neg (by omega)] at hq
      exact c_ice_L hR e14 hfr m (i + 1) a (by omega) ha hq
    · rw [if_pos c] at hq
      exact c_ice_L hR e14 hfr m (i + 1) _ (by omega) o2 hq
theorem s_wall_L {g : x_G} {k : Nat} {Q : x_Q} {I L : Nat → Nat → Int} {lp tp : Nat} : ∀ (m i : Nat) (a : Int), i + m = 8 → (∀ v, v = a + q_sf2 (I 19) m i → Q [x_i v] (I, L, lp, tp)) → x_S g (k + 1) 93 Q 4 [x_r 18, x_i a, x_i (i : Int)] [] (I, L, lp, tp)
  | 0, i, a, hm, hq => by
    refine v_wall_L4 ⟨⟨by omega, by omega⟩, fun _ => hq _ (by rw [q_sf2]; omega), fun q => by omega⟩
  | m + 1, i, a, hm, hq => by
    rw [q_sf2] at hq
    refine v_wall_L4 ⟨⟨by omega, by omega⟩, fun q => by omega, fun _ => ⟨⟨by omega, by omega⟩, ?_⟩⟩
    rw [show ((i : Int)).toNat = i by omega]
    exact s_wall_L m (i + 1) _ (by omega) (fun v hv => hq v (by omega))
theorem q_sf2_congr {f g : Nat → Int} : ∀ m i, (∀ r, i ≤ r → r < i + m → f r = g r) → q_sf2 f m i = q_sf2 g m i
  | 0, _, _ => rfl
  | m + 1, i, h => by rw [q_sf2, q_sf2, h i (by omega) (by omega), q_sf2_congr m (i + 1) (fun r h1 h2 => h r (by omega) (by omega))]
theorem q_sf2_cut {f : Nat → Int} (b : Nat) : ∀ a i, (∀ r, i + a ≤ r → r < i + a + b → f r = 0) → q_sf2 f (a + b) i = q_sf2 f a i
  | 0, i, h => by
    rw [Nat.zero_add]
    induction b generalizing i with
    | zero => rfl
    | succ b ih =>
      have e := ih (i + 1) (fun r h1 h2 => h r (by omega) (by omega))
      have e2 := h i (by omega) (by omega)
      show f i + q_sf2 f b (i + 1) = 0
      rw [e, e2]; rfl
  | a + 1, i, h => by rw [show a + 1 + b = (a + b) + 1 by omega, q_sf2, q_sf2, q_sf2_cut b a (i + 1) (fun r h1 h2 => h r (by omega) (by omega))]
theorem s_wall {g : x_G} {k : Nat} {Q : x_Q} {I L : Nat → Nat → Int} {lp tp R : Nat} {wk : Nat → Int} (hR : R ≤ 8) (h1 : ∀ r, r < R → I 19 r = wk r) (h2 : ∀ r, R ≤ r → r < 8 → I 19 r = 0) (hq : Q [x_i (q_sf2 wk R 0)] (I, L, lp, tp)) : x_X g (k + 1) 93 [x_r 18] (I, L, lp, tp) Q := by
  refine v_wall (s_wall_L 8 0 0 rfl (fun v hv => ?_))
  have e := q_sf2_cut (f := I 19) (8 - R) R 0 (fun r a b => h2 r (by omega) (by omega))
  rw [show R + (8 - R) = 8 by omega, q_sf2_congr R 0 (fun r _ b => h1 r (by omega))] at e
  rw [hv, e, Int.zero_add]; exact hq
theorem m_workers_L {g : x_G} {k : Nat} {Q : x_Q} {I L : Nat → Nat → Int} {lp tp R : Nat} {wk : Nat → Int} (hR : R ≤ 8) (e24 : I 179 24 = (R : Int)) (h1 : ∀ r, r < R → I 190 r = wk r) : ∀ (m i : Nat) (a : Int), i + m = R → (∀ v, v = a + q_sf2 wk m i → Q [x_i v] (I, L, lp, tp)) → x_S g (k + 1) 278 Q 4 [x_r 179, x_i a, x_i (i : Int)] [] (I, L, lp, tp)
  | 0, i, a, hm, hq => by
    refine v_workersM_L4 ?_
    rw [e24]
    exact ⟨⟨by omega, by omega⟩, ⟨by omega, by omega⟩, fun _ => hq _ (by rw [q_sf2]; omega), fun q => by omega⟩
  | m + 1, i, a, hm, hq => by
    rw [q_sf2] at hq
    refine v_workersM_L4 ?_
    rw [e24, show ((i : Int)).toNat = i by omega, h1 i (by omega)]
    exact ⟨⟨by omega, by omega⟩, ⟨by omega, by omega⟩, fun q => by omega, fun _ => ⟨⟨by omega, by omega⟩, m_workers_L hR e24 h1 m (i + 1) _ (by omega) (fun v hv => hq v (by omega))⟩⟩
theorem m_workers {g : x_G} {k : Nat} {Q : x_Q} {I L : Nat → Nat → Int} {lp tp R : Nat} {wk : Nat → Int} (hR : R ≤ 8) (e24 : I 179 24 = (R : Int)) (h1 : ∀ r, r < R → I 190 r = wk r) (hq : Q [x_i (q_sf2 wk R 0)] (I, L, lp, tp)) : x_X g (k + 1) 278 [x_r 179] (I, L, lp, tp) Q :=
  v_workersM (m_workers_L hR e24 h1 R 0 0 (Nat.zero_add _) (fun v hv => by rw [hv, Int.zero_add]; exact hq))
theorem c_all {g : x_G} {k : Nat} {Q : x_Q} {I L : Nat → Nat → Int} {lp tp : Nat} {z : q_Z} (hZ : q_Zk z) (hc : q_ZC I lp z) {fr : Nat → Int} (hfr : ∀ r, r < q_yR (q_zy z) → I 20 r = fr r ∧ 0 ≤ fr r ∧ fr r ≤ 9) (h19 : ∀ r, q_yR (q_zy z) ≤ r → r < 8 → I 19 r = 0) {w : Int} (hw : x_rg w) (hq : ∀ I', x_fr q_fK I I' → Q [x_i (q_aAll z fr w)] (I', L, lp, tp)) : x_X g (k + 15) 159 [x_r 1, x_i w] (I, L, lp, tp) Q := by
  have hR := q_ZR hZ
  have out : ∀ I' v, x_fr q_fK I I' → v = q_aAll z fr w → Q [x_i v] (I', L, lp, tp) := fun I' v f e => by rw [e]; exact hq I' f
  unfold q_aAll at out
  refine v_all (k := k + 13) ?_
  rw [q_ZC_R hc]
  refine ⟨⟨by omega, by omega⟩, fun q => ?_, fun q => out _ _ (x_fr_refl _ _) (by rw [if_pos (by omega)])⟩
  rw [if_neg (show ¬ q_yR (q_zy z) = 0 by omega)] at out
  refine x_le (show k + 12 ≤ k + 13 by omega) (s_goRound hZ hc (fun I' f' c' W' => ⟨rfl, hw, fun c => ?_, fun c => ?_, fun c => ?_, fun c => ?_, fun c => ?_, fun c => ?_, fun c => ?_⟩))
  · exact out _ _ f' (by rw [if_pos c]; exact W'.2.2.2.2.2.1)
  · refine x_le (show 1 ≤ k + 13 by omega) (s_wall (k := 0) hR c'.1.2.2.2 (fun r a b => (f' 19 r rfl).trans (h19 r a b)) ⟨_, rfl, out _ _ f' ?_⟩)
    rw [if_neg (by omega), if_pos c]
    dsimp only
    rw [W'.2.2.1]
  · exact out _ _ f' (by rw [if_neg (by omega), if_neg (by omega), if_pos c]; exact W'.2.2.2.2.1)
  · refine v_coldest (k := k + 11) (c_cold_L (k := k + 11) hZ c' W' (q_yR (q_zy z)) 0 (-1) (Nat.zero_add _) (Or.inl rfl) ⟨_, rfl, out _ _ f' ?_⟩)
    rw [if_neg (by omega), if_neg (by omega), if_neg (by omega), if_pos c]
  · refine out _ _ f' ?_
    have hs := (q_zs_ok hZ).2.2.2.2.2.2.2.2.2.2
    dsimp only
    rw [if_neg (by omega), if_neg (by omega), if_neg (by omega), if_neg (by omega), if_pos c, q_ZC_R c', W'.2.1, q_every _ (by omega), q_lostN_and hR hs]
  · refine v_ice (k := k + 12) (c_ice_L (k := k + 12) hR (q_ZC_R c') (fun r hr => by rw [f' 20 r rfl]; exact hfr r hr) (q_yR (q_zy z)) 0 0 (Nat.zero_add _) (by decide) ⟨_, rfl, out _ _ f' ?_⟩)
    rw [if_neg (by omega), if_neg (by omega), if_neg (by omega), if_neg (by omega), if_neg (by omega), if_pos c]
  · exact out _ _ f' (by rw [if_neg c.1, if_neg c.2.1, if_neg c.2.2.1, if_neg c.2.2.2.1, if_neg c.2.2.2.2.1, if_neg c.2.2.2.2.2])
theorem q_or0 (a : Nat) (ha : a < 256) : x_or (a : Int) 0 = (a : Int) := by
  have := q_or_nat a 0 (by omega) (by decide)
  rw [Nat.or_zero] at this
  exact this
theorem m_all_L {g : x_G} {k : Nat} {Q : x_Q} {I L : Nat → Nat → Int} {lp tp : Nat} {z : q_Z} {FA : Nat → q_AV} {nl : Nat} (hZ : q_Zk z) (hc : q_ZM I L z FA nl) (W : q_Wm I (q_zy z) (q_zs z)) {fr : Nat → Int} (hfr : ∀ r, r < q_yR (q_zy z) → I 190 (8 + r) = fr r ∧ 0 ≤ fr r ∧ fr r ≤ 9) {w : Int} (hw : x_rg w) : ∀ (m i : Nat) (b : Int) (a : Nat), i + m = q_yR (q_zy z) → q_bok z b i → a < 256 → Q [x_i (if w = 3 then q_cold z m i b else ((q_ic fr m i a : Nat) : Int))] (I, L, lp, tp) → x_S g (k + 2) 279 Q 48 [x_r 179, x_i w, x_i b, x_i (a : Int), x_i (i : Int)] [] (I, L, lp, tp)
  | 0, i, b, a, hm, hb, ha, hq => by
    have hR := q_ZR hZ
    rw [q_cold, q_ic] at hq
    refine v_allM_L48 ?_
    rw [hc.1.1]
    refine ⟨⟨by omega, by omega⟩, ⟨by omega, by omega⟩, fun _ => ⟨hw, fun c => ?_, fun c => ?_⟩, fun q => by omega⟩
    · rw [if_neg c] at hq; exact hq
    · rw [if_pos c] at hq; exact hq
  | m + 1, i, b, a, hm, hb, ha, hq => by
    have hR := q_ZR hZ
    rw [q_cold, q_ic] at hq
    obtain ⟨a1, a2, a3, a4⟩ := q_Wm_at hZ W i (by omega)
    obtain ⟨f1, f2, f3⟩ := hfr i (by omega)
    obtain ⟨o1, o2⟩ := q_or1 a i ha (by omega)
    have e8 : I 190 (8 + (i : Int)).toNat = fr i := by rw [show (8 + (i : Int)).toNat = 8 + i by omega]; exact f1
    have nx : ∀ b' : Int, b' = (if (q_sb (q_zs z)).testBit i = true ∧ (b = -1 ∨ q_sH (q_zs z) i < q_sH (q_zs z) b.toNat) then (i : Int) else b) → q_bok z b' (i + 1) → (0 ≤ (8 + (i : Int)) ∧ (8 + (i : Int)) < 210) ∧ ((x_rg (fr i)) ∧ ((fr i < 3 → x_S g (k + 2) 279 Q 48 [x_r 179, x_i w, x_i b', x_i (a : Int), x_i ((i : Int) + 1)] [] (I, L, lp, tp)) ∧ (3 ≤ fr i → x_S g (k + 2) 279 Q 48 [x_r 179, x_i w, x_i b', x_i ((a ||| 2 ^ i : Nat) : Int), x_i ((i : Int) + 1)] [] (I, L, lp, tp)))) := by
      intro b' hb' hk'
      rw [← hb'] at hq
      refine ⟨⟨by omega, by omega⟩, ⟨by omega, by omega⟩, fun c => ?_, fun c => ?_⟩
      · rw [if_neg (show ¬ 3 ≤ fr i by omega)] at hq
        exact m_all_L hZ hc W hfr hw m (i + 1) b' a (by omega) hk' ha hq
      · rw [if_pos c] at hq
        exact m_all_L hZ hc W hfr hw m (i + 1) b' _ (by omega) hk' o2 hq
    have hbk : q_bok z b (i + 1) := by
      rcases hb with e | ⟨n, e, hn, hbit⟩
      · exact Or.inl e
      · exact Or.inr ⟨n, e, by omega, hbit⟩
    refine v_allM_L48 ?_
    rw [hc.1.1, show ((i : Int)).toNat = i by omega, e8, o1, q_or0 a ha]
    refine ⟨⟨by omega, by omega⟩, ⟨by omega, by omega⟩, fun q => by omega, fun q => ⟨a1, ⟨by omega, by omega⟩, fun c => nx b (by rw [if_neg (fun h => by rw [a2.mp c] at h; exact absurd h.1 (by decide))]) hbk, fun c => ?_⟩⟩
    have cb : (q_sb (q_zs z)).testBit i = true := by
      cases e : (q_sb (q_zs z)).testBit i with
      | true => rfl
      | false => exact absurd (a2.mpr e) c
    have hik : q_bok z (i : Int) (i + 1) := Or.inr ⟨i, rfl, by omega, cb⟩
    obtain ⟨-, -, h1, h2⟩ := (q_zs_rg hZ).1 i cb
    rw [(a3 cb).2]
    rcases hb with rfl | ⟨n, rfl, hn, hbit⟩
    · exact ⟨by decide, fun _ => nx _ (by rw [if_pos ⟨cb, Or.inl rfl⟩]) hik, fun h => absurd rfl h⟩
    · obtain ⟨-, -, b3, -⟩ := q_Wm_at hZ W n (by omega)
      obtain ⟨-, -, g1, g2⟩ := (q_zs_rg hZ).1 n hbit
      rw [show ((n : Int)).toNat = n by omega] at *
      rw [(b3 hbit).2]
      exact ⟨⟨by omega, by omega⟩, fun h => by omega, fun _ => ⟨⟨by omega, by omega⟩, ⟨by omega, by omega⟩, ⟨by omega, by omega⟩, ⟨by omega, by omega⟩, fun c3 => nx _ (by rw [if_neg (fun h => by have := h.2; omega)]) hbk, fun c3 => nx _ (by rw [if_pos ⟨cb, Or.inr c3⟩]) hik⟩⟩
theorem m_all {g : x_G} {k : Nat} {Q : x_Q} {I L : Nat → Nat → Int} {lp tp : Nat} {z : q_Z} {FA : Nat → q_AV} {nl : Nat} (hk : 110 ≤ k) (hZ : q_Zk z) (hm : q_ZM I L z FA nl) {fr : Nat → Int} (hfr : ∀ r, r < q_yR (q_zy z) → I 190 (8 + r) = fr r ∧ 0 ≤ fr r ∧ fr r ≤ 9) {w : Int} (hw : x_rg w) (hq : ∀ I' L' tp', x_fr q_fE I I' → q_Lo L L' → q_LM I' L' FA nl → Q [x_i (q_aAll z fr w)] (I', L', lp, tp')) : x_X g k 279 [x_r 179, x_i w] (I, L, lp, tp) Q := by
  obtain ⟨k, rfl⟩ : ∃ k', k = k' + 2 := ⟨k - 2, by omega⟩
  have out : ∀ I' L' tp' v, x_fr q_fE I I' → q_Lo L L' → q_LM I' L' FA nl → v = q_aAll z fr w → Q [x_i v] (I', L', lp, tp') := fun I' L' tp' v f l m e => by rw [e]; exact hq I' L' tp' f l m
  have hR := q_ZR hZ
  have hm0 := q_ZM_0 hm 0
  have o0 : ∀ v, v = q_aAll z fr w → Q [x_i v] (x_u I 179 0 0, L, lp, tp) := fun v e => out _ _ _ v (q_fE0 _ _) (fun _ _ _ => rfl) hm0.1.2.2.2.2.2.1 e
  unfold q_aAll at out o0
  refine v_allM ?_
  rw [hm.1.1]
  refine ⟨⟨by omega, by omega⟩, fun q => o0 _ (by rw [if_pos (by omega)]), fun q => ⟨hw, fun c => ?_, fun c => o0 _ (by rw [if_neg (by omega), if_neg (by omega), if_neg (by omega), if_neg (by omega), if_neg (by omega), if_neg (by omega), if_neg (by omega)])⟩⟩
  rw [if_neg (show ¬ q_yR (q_zy z) = 0 by omega)] at out
  refine m_goNow (by omega) hZ hm0 (fun I' L' tp' f' l' m' W' => ⟨rfl, ?_⟩)
  have out' := fun v => out I' L' tp' v (q_fE1 f') l' m'.1.2.2.2.2.2.1
  refine ⟨fun c1 => ⟨fun c2 => ⟨fun c3 => ⟨fun c4 => ?_, fun c4 => out' _ ?_⟩, fun c3 => out' _ ?_⟩, fun c2 => ?_⟩, fun c1 => out' _ ?_⟩
  · refine m_all_L hZ m' W' (fun r hr => by rw [f' 190 (8 + r) rfl]; exact hfr r hr) hw (q_yR (q_zy z)) 0 (-1) 0 (Nat.zero_add _) (Or.inl rfl) (by decide) (out' _ ?_)
    rw [if_neg c1, if_neg c2, if_neg c3]
    by_cases e : w = 3
    · rw [if_pos e, if_pos e]
    · rw [if_neg e, if_neg e, if_neg c4, if_pos (by omega)]
  · rw [if_neg c1, if_neg c2, if_neg c3, if_neg (by omega), if_pos c4]; exact q_lost_N hZ W'.2.1
  · rw [if_neg c1, if_neg c2, if_pos c3]; exact W'.1.2.1
  · refine x_le (show 1 ≤ k by omega) (m_workers (k := 0) hR m'.1.1 m'.1.2.2.2.2.1 ⟨_, rfl, out' _ ?_⟩)
    dsimp only
    rw [if_neg c1, if_pos c2, W'.1.2.2.2.2.2.2]
  · rw [if_pos c1]; exact W'.1.2.2.2.1
