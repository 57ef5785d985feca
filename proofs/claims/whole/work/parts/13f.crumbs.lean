/-! crumbs -/
def q_sf2 (f : Nat → Int) : Nat → Nat → Int
  | 0, _ => 0
  | m + 1, i => f i + q_sf2 f m (i + 1)
theorem q_sf2_up (f : Nat → Int) (r : Nat) (v : Int) : ∀ m i, q_sf2 (q_up f r v) m i = if i ≤ r ∧ r < i + m then q_sf2 f m i - f r + v else q_sf2 f m i
  | 0, i => by rw [if_neg (by omega)]; rfl
  | m + 1, i => by
    rw [q_sf2, q_sf2, q_sf2_up f r v m (i + 1)]
    unfold q_up
    by_cases e : i = r
    · subst e
      rw [if_pos rfl, if_neg (by omega), if_pos (by omega)]; omega
    · rw [if_neg e]
      by_cases e2 : i + 1 ≤ r ∧ r < i + 1 + m
      · rw [if_pos e2, if_pos (by omega)]; omega
      · rw [if_neg e2, if_neg (by omega)]
/-- no digit twice -/
def q_Zd (z : q_Z) : Prop := ∀ x x', x < 8 → x' < 8 → q_zr z x = q_zr z x' → 0 ≤ q_zr z x → x = x'
theorem q_vis_mem (R sh : Nat) (rd : Nat → Int) : ∀ m i r, r ∈ q_vis R sh rd m i → ∃ x, i ≤ x ∧ x < i + m ∧ rd x = (r : Int)
  | 0, _, r, h => by cases h
  | m + 1, i, r, h => by
    rw [q_vis] at h
    by_cases q : (0 ≤ rd i ∧ rd i < (R : Int)) ∧ sh.testBit (rd i).toNat = false
    · rw [if_pos q] at h
      rcases List.mem_cons.mp h with e | h
      · exact ⟨i, Nat.le_refl _, by omega, by omega⟩
      · obtain ⟨x, x1, x2, x3⟩ := q_vis_mem R sh rd m (i + 1) r h
        exact ⟨x, by omega, by omega, x3⟩
    · rw [if_neg q] at h
      obtain ⟨x, x1, x2, x3⟩ := q_vis_mem R sh rd m (i + 1) r h
      exact ⟨x, by omega, by omega, x3⟩
theorem q_vis_nd (R sh : Nat) (rd : Nat → Int) (hd : ∀ x x', x < 8 → x' < 8 → rd x = rd x' → 0 ≤ rd x → x = x') : ∀ m i, i + m ≤ 8 → (q_vis R sh rd m i).Nodup
  | 0, _, _ => List.nodup_nil
  | m + 1, i, hi => by
    rw [q_vis]
    by_cases q : (0 ≤ rd i ∧ rd i < (R : Int)) ∧ sh.testBit (rd i).toNat = false
    · rw [if_pos q]
      refine List.nodup_cons.mpr ⟨fun h => ?_, q_vis_nd R sh rd hd m (i + 1) (by omega)⟩
      obtain ⟨x, x1, x2, x3⟩ := q_vis_mem R sh rd m (i + 1) _ h
      have := hd i x (by omega) (by omega) (by omega) q.1.1
      omega
    · rw [if_neg q]; exact q_vis_nd R sh rd hd m (i + 1) (by omega)
theorem q_go_tea {y : q_Y} : ∀ (l : List Nat) (s : q_S), (∀ r ∈ l, r < q_yR y) → l.Nodup → (∀ r ∈ l, (q_sb s).testBit r = false) → (∀ r, (q_sb s).testBit r = false → q_sP s r = 0) → q_sq s = q_sf2 (q_sP s) (q_yR y) 0 → q_sq (q_go y s l) = q_sf2 (q_sP (q_go y s l)) (q_yR y) 0
  | [], s, _, _, _, _, h => h
  | r :: l, s, hl, hn, hb, h0, h => by
    obtain ⟨n1, n2⟩ := List.nodup_cons.mp hn
    have hr := hl r List.mem_cons_self
    refine q_go_tea l (q_stp y s r) (fun x hx => hl x (List.mem_cons_of_mem _ hx)) n2 (fun x hx => ?_) (fun x hx => ?_) ?_
    · show (q_sb s ||| 2 ^ r).testBit x = false
      rw [q_or1_bit, hb x (List.mem_cons_of_mem _ hx)]
      have : ¬ r = x := fun e => n1 (e ▸ hx)
      simp [this]
    · have hx' : (q_sb s ||| 2 ^ r).testBit x = false := hx
      rw [q_or1_bit] at hx'
      have e : ¬ x = r := by intro e; subst e; simp at hx'
      show q_up (q_sP s) r _ x = 0
      unfold q_up
      rw [if_neg e]
      exact h0 x (by simpa [Ne.symm e] using hx')
    · show q_sq s + q_po y (q_sc s) r = q_sf2 (q_up (q_sP s) r (q_po y (q_sc s) r)) (q_yR y) 0
      rw [q_sf2_up, if_pos (by omega), h0 r (hb r List.mem_cons_self), h]; omega
theorem q_zs_tea {z : q_Z} (hd : q_Zd z) : q_sq (q_zs z) = q_sf2 (q_sP (q_zs z)) (q_yR (q_zy z)) 0 := by
  refine q_go_tea _ _ (fun r hr => (q_vis_lt _ _ _ _ _ r hr).1) (q_vis_nd _ _ _ hd 8 0 (by decide)) (fun r _ => by show (0 : Nat).testBit r = false; simp) (fun _ _ => rfl) ?_
  have : ∀ m i, q_sf2 (fun _ => 0) m i = 0 := by
    intro m
    induction m with
    | zero => intro i; rfl
    | succ m ih => intro i; rw [q_sf2, ih]; rfl
  exact (this _ _).symm
def q_my (z : q_Z) (set : Nat) : Nat → Nat → Bool
  | 0, _ => true
  | m + 1, i => if set.testBit i = true ∧ q_ywk (q_zy z) i = 0 then false else q_my z set m (i + 1)
def q_cin (z : q_Z) (set : Nat) : Nat → Nat → Int
  | 0, _ => 0
  | m + 1, i => (if set.testBit i = true then q_sP (q_zs z) i else 0) + q_cin z set m (i + 1)
theorem q_cin_rg {z : q_Z} (hZ : q_Zk z) (set : Nat) : ∀ m i, 0 ≤ q_cin z set m i ∧ q_cin z set m i ≤ 60 * (m : Int)
  | 0, i => by constructor <;> exact Int.le_refl _
  | m + 1, i => by
    have := q_cin_rg hZ set m (i + 1)
    have h2 := (q_zs_rg hZ).2 i
    rw [q_cin]
    split <;> constructor <;> omega
def q_crs (z : q_Z) (e i : Int) : Nat → Nat → Int → Int
  | 0, _, n => if i = -1 then n else -1
  | m + 1, set, n => if q_my z set (q_yR (q_zy z)) 0 = true ∧ q_sq (q_zs z) + q_cin z set (q_yR (q_zy z)) 0 = e then (if n = i then (set : Int) else q_crs z e i m (set + 1) (n + 1)) else q_crs z e i m (set + 1) n
def q_aCrumbs (z : q_Z) (e i : Int) : Int := if (¬ q_yR (q_zy z) = 0 ∧ 0 ≤ e ∧ e ≤ 200) ∧ -1 ≤ i then q_crs z e i (2 ^ q_yR (q_zy z)) 0 0 else -1
theorem c_cht_L {g : x_G} {k : Nat} {Q : x_Q} {I L : Nat → Nat → Int} {lp tp : Nat} {z : q_Z} (hZ : q_Zk z) (hc : q_ZC I lp z) {set : Nat} (hset : set < 256) : ∀ (m i : Nat), i + m = q_yR (q_zy z) → Q [x_i (if q_my z set m i = true then 1 else 0)] (I, L, lp, tp) → x_S g (k + 2) 149 Q 2 [x_r 1, x_i (set : Int), x_i (i : Int)] [] (I, L, lp, tp)
  | 0, i, hm, hq => by
    have hR := q_ZR hZ
    refine v_canHaveTwo_L2 ?_
    rw [q_ZC_R hc]
    exact ⟨⟨by omega, by omega⟩, ⟨by omega, by omega⟩, fun _ => hq, fun q => by omega⟩
  | m + 1, i, hm, hq => by
    have hR := q_ZR hZ
    rw [q_my] at hq
    have e19 : I 19 i = q_ywk (q_zy z) i := hc.1.2.2.2 i (by omega)
    have wk := hZ.1.2.2 i (by omega)
    refine v_canHaveTwo_L2 ?_
    rw [q_ZC_R hc, show ((i : Int)).toNat = i by omega, show ((set : Int)).toNat = set by omega, e19]
    refine ⟨⟨by omega, by omega⟩, ⟨by omega, by omega⟩, fun q => by omega, fun q => ⟨⟨by omega, by omega⟩, ⟨by omega, by omega⟩, fun c => ⟨⟨by omega, by omega⟩, ⟨by omega, by omega⟩, fun c2 => ?_, fun c2 => ?_⟩, fun c => ?_⟩⟩
    · rw [if_neg (show ¬ (set.testBit i = true ∧ q_ywk (q_zy z) i = 0) from fun h => c2 h.2)] at hq
      exact c_cht_L hZ hc hset m (i + 1) (by omega) hq
    · rw [if_pos (show set.testBit i = true ∧ q_ywk (q_zy z) i = 0 from ⟨c, c2⟩)] at hq
      exact hq
    · rw [if_neg (show ¬ (set.testBit i = true ∧ q_ywk (q_zy z) i = 0) from fun h => c h.1)] at hq
      exact c_cht_L hZ hc hset m (i + 1) (by omega) hq
theorem c_cin_L {g : x_G} {k : Nat} {Q : x_Q} {I L : Nat → Nat → Int} {lp tp : Nat} {z : q_Z} (hZ : q_Zk z) (hc : q_ZC I lp z) (W : q_Wc I (q_zs z) (q_zv z)) {set : Nat} (hset : set < 256) : ∀ (m i : Nat) (a : Int), i + m = q_yR (q_zy z) → (∀ v, v = a + q_cin z set m i → Q [x_i v] (I, L, lp, tp)) → x_S g (k + 3) 150 Q 4 [x_r 1, x_i (set : Int), x_i a, x_i (i : Int)] [] (I, L, lp, tp)
  | 0, i, a, hm, hq => by
    have hR := q_ZR hZ
    refine v_cupsIn_L4 ?_
    rw [q_ZC_R hc]
    exact ⟨⟨by omega, by omega⟩, ⟨by omega, by omega⟩, fun _ => hq _ (by rw [q_cin]; omega), fun q => by omega⟩
  | m + 1, i, a, hm, hq => by
    have hR := q_ZR hZ
    rw [q_cin] at hq
    obtain ⟨a1, a2, a3⟩ := q_Wc_at hZ W i (by omega)
    refine v_cupsIn_L4 ?_
    rw [q_ZC_R hc, show ((i : Int)).toNat = i by omega, show ((set : Int)).toNat = set by omega, a2]
    refine ⟨⟨by omega, by omega⟩, ⟨by omega, by omega⟩, fun q => by omega, fun q => ⟨⟨by omega, by omega⟩, ⟨by omega, by omega⟩, fun c => ⟨a1, fun c2 => ⟨⟨by omega, by omega⟩, ?_⟩, fun c2 => ?_⟩, fun c => ?_⟩⟩
    · rw [(a3 c2).2.2]
      rw [if_pos c] at hq
      exact c_cin_L hZ hc W hset m (i + 1) _ (by omega) (fun v hv => hq v (by omega))
    · rw [if_pos c, q_zs_P0 z i (by simpa using c2)] at hq
      exact c_cin_L hZ hc W hset m (i + 1) _ (by omega) (fun v hv => hq v (by omega))
    · rw [if_neg c] at hq
      exact c_cin_L hZ hc W hset m (i + 1) _ (by omega) (fun v hv => hq v (by omega))
theorem q_pow8 {R : Nat} (hR : R ≤ 8) : 2 ^ R ≤ 256 ∧ 0 < 2 ^ R := ⟨Nat.pow_le_pow_right (n := 2) (by decide) hR, Nat.pow_pos (by decide)⟩
theorem c_crs_L {g : x_G} {k : Nat} {Q : x_Q} {I L : Nat → Nat → Int} {lp tp : Nat} {z : q_Z} (hZ : q_Zk z) (hc : q_ZC I lp z) (W : q_Wc I (q_zs z) (q_zv z)) {e i : Int} (he : x_rg e) (hi : x_rg i) : ∀ (m set : Nat) (n : Int), set + m = 2 ^ q_yR (q_zy z) → 0 ≤ n → n ≤ (set : Int) → Q [x_i (q_crs z e i m set n)] (I, L, lp, tp) → x_S g (k + 5) 148 Q 19 [x_r 1, x_i e, x_i i, x_i n, x_i (set : Int)] [] (I, L, lp, tp)
  | 0, set, n, hm, h0, hn, hq => by
    have hR := q_ZR hZ
    have hp := q_pow8 hR
    rw [q_crs] at hq
    refine v_crumbs_L19 (k := k + 3) ?_
    rw [q_ZC_R hc, q_every _ (by omega)]
    refine ⟨⟨by omega, by omega⟩, ⟨by omega, by omega⟩, fun _ => ⟨hi, fun c => ?_, fun c => ?_⟩, fun q => by omega⟩
    · rw [if_neg c] at hq; exact hq
    · rw [if_pos c] at hq; exact hq
  | m + 1, set, n, hm, h0, hn, hq => by
    have hR := q_ZR hZ
    have hp := q_pow8 hR
    rw [q_crs] at hq
    obtain ⟨-, -, s3, s4, s5, -⟩ := q_zs_ok hZ
    have ci := q_cin_rg hZ set (q_yR (q_zy z)) 0
    have e9 := W.2.2.1
    refine v_crumbs_L19 (k := k + 3) ?_
    rw [q_ZC_R hc, q_every _ (by omega)]
    refine ⟨⟨by omega, by omega⟩, ⟨by omega, by omega⟩, fun q => by omega, fun q => ?_⟩
    refine v_canHaveTwo (k := k + 1) (c_cht_L (k := k + 1) hZ hc (set := set) (by omega) _ 0 (Nat.zero_add _) ?_)
    refine ⟨_, rfl, ?_⟩
    cases hmy : q_my z set (q_yR (q_zy z)) 0 with
    | false =>
      rw [if_neg (fun h => by rw [hmy] at h; exact absurd h.1 (by decide))] at hq
      exact ⟨by decide, fun _ => c_crs_L hZ hc W he hi m (set + 1) n (by omega) h0 (by omega) hq, fun c => absurd rfl c⟩
    | true =>
      refine ⟨by decide, fun c => absurd c (by decide), fun _ => ?_⟩
      refine v_cupsIn (k := k) (c_cin_L (k := k) hZ hc W (set := set) (by omega) _ 0 0 (Nat.zero_add _) (fun v hv => ⟨v, rfl, ?_⟩))
      dsimp only
      rw [hv, Int.zero_add, e9]
      refine ⟨⟨by omega, by omega⟩, he, fun c => ⟨⟨by omega, by omega⟩, hi, fun c2 => ?_, fun c2 => ?_⟩, fun c => ?_⟩
      · rw [if_pos ⟨hmy, c⟩, if_neg c2] at hq
        exact c_crs_L hZ hc W he hi m (set + 1) (n + 1) (by omega) (by omega) (by omega) hq
      · rw [if_pos ⟨hmy, c⟩, if_pos c2] at hq
        exact hq
      · rw [if_neg (fun h => c h.2)] at hq
        exact c_crs_L hZ hc W he hi m (set + 1) n (by omega) h0 (by omega) hq
def q_sm2 (z : q_Z) (set : Nat) : Nat → Nat → Int
  | 0, _ => 0
  | m + 1, i => (if set.testBit i = true then 2 * q_sP (q_zs z) i else q_sP (q_zs z) i) + q_sm2 z set m (i + 1)
theorem q_sm2_eq (z : q_Z) (set : Nat) : ∀ m i, q_sm2 z set m i = q_sf2 (q_sP (q_zs z)) m i + q_cin z set m i
  | 0, i => rfl
  | m + 1, i => by
    rw [q_sm2, q_sf2, q_cin, q_sm2_eq z set m (i + 1)]
    split <;> omega
/-- the reference's sum over one set -/
theorem m_set_L {g : x_G} {k : Nat} {Q : x_Q} {I L : Nat → Nat → Int} {lp tp : Nat} {z : q_Z} {FA : Nat → q_AV} {nl : Nat} (hZ : q_Zk z) (hc : q_ZM I L z FA nl) (W : q_Wm I (q_zy z) (q_zs z)) {e i n : Int} {set : Nat} (hset : set < 256) : ∀ (m r : Nat) (a b : Int), r + m = q_yR (q_zy z) → (b = 0 ∨ b = 1) → (∀ v c : Int, v = a + q_sm2 z set m r → c = (if b = 1 ∧ q_my z set m r = true then 1 else 0) → x_S g (k + 2) 266 Q 35 [x_r 179, x_i e, x_i i, x_i n, x_i (set : Int), x_i v, x_i c, x_i (q_yR (q_zy z) : Int)] [] (I, L, lp, tp)) → x_S g (k + 2) 266 Q 35 [x_r 179, x_i e, x_i i, x_i n, x_i (set : Int), x_i a, x_i b, x_i (r : Int)] [] (I, L, lp, tp)
  | 0, r, a, b, hm, hb, hq => by
    have := hq a b (by rw [q_sm2]; omega) (by rw [q_my]; rcases hb with rfl | rfl <;> simp)
    rw [show (r : Int) = (q_yR (q_zy z) : Int) by omega]
    exact this
  | m + 1, r, a, b, hm, hb, hq => by
    have hR := q_ZR hZ
    rw [q_sm2, q_my] at hq
    obtain ⟨a1, a2, a3, a4⟩ := q_Wm_at hZ W r (by omega)
    have wk := hZ.1.2.2 r (by omega)
    have e190 : I 190 r = q_ywk (q_zy z) r := hc.1.2.2.2.2.1 r (by omega)
    refine v_crumbsM_L35 ?_
    rw [hc.1.1, show ((r : Int)).toNat = r by omega, show ((set : Int)).toNat = set by omega, a4, e190]
    have br : x_rg b := by rcases hb with rfl | rfl <;> decide
    refine ⟨⟨by omega, by omega⟩, ⟨by omega, by omega⟩, fun q => by omega, fun q => ⟨⟨by omega, by omega⟩, ⟨by omega, by omega⟩, fun c => ⟨⟨by omega, by omega⟩, br, fun c2 => ?_, fun c2 => ⟨⟨by omega, by omega⟩, ⟨by omega, by omega⟩, fun c3 => ?_, fun c3 => ?_⟩⟩, fun c => ⟨⟨by omega, by omega⟩, br, fun c2 => ?_, fun c2 => ?_⟩⟩⟩
    · refine m_set_L hZ hc W hset m (r + 1) _ 0 (by omega) (Or.inl rfl) (fun v d hv hd => hq v d ?_ ?_)
      · rw [hv, if_pos c]; omega
      · rw [hd, c2]; simp
    · refine m_set_L hZ hc W hset m (r + 1) _ 0 (by omega) (Or.inl rfl) (fun v d hv hd => hq v d ?_ ?_)
      · rw [hv, if_pos c]; omega
      · rw [hd, if_pos (show set.testBit r = true ∧ q_ywk (q_zy z) r = 0 from ⟨c, by omega⟩)]; simp
    · refine m_set_L hZ hc W hset m (r + 1) _ 1 (by omega) (Or.inr rfl) (fun v d hv hd => hq v d ?_ ?_)
      · rw [hv, if_pos c]; omega
      · rw [hd, if_neg (show ¬ (set.testBit r = true ∧ q_ywk (q_zy z) r = 0) from fun h => by have := h.2; omega), show b = 1 by omega]
    · refine m_set_L hZ hc W hset m (r + 1) _ 0 (by omega) (Or.inl rfl) (fun v d hv hd => hq v d ?_ ?_)
      · rw [hv, if_neg c]; omega
      · rw [hd, c2]; simp
    · refine m_set_L hZ hc W hset m (r + 1) _ 1 (by omega) (Or.inr rfl) (fun v d hv hd => hq v d ?_ ?_)
      · rw [hv, if_neg c]; omega
      · rw [hd, if_neg (show ¬ (set.testBit r = true ∧ q_ywk (q_zy z) r = 0) from fun h => c h.1), show b = 1 by omega]
theorem m_crs_L {g : x_G} {k : Nat} {Q : x_Q} {I L : Nat → Nat → Int} {lp tp : Nat} {z : q_Z} {FA : Nat → q_AV} {nl : Nat} (hZ : q_Zk z) (hd : q_Zd z) (hc : q_ZM I L z FA nl) (W : q_Wm I (q_zy z) (q_zs z)) {e i : Int} (he : x_rg e) (hi : x_rg i) : ∀ (m set : Nat) (n : Int), set + m = 2 ^ q_yR (q_zy z) → 0 ≤ n → n ≤ (set : Int) → Q [x_i (q_crs z e i m set n)] (I, L, lp, tp) → x_S g (k + 2) 266 Q 23 [x_r 179, x_i e, x_i i, x_i n, x_i (set : Int), x_n, x_n, x_n] [] (I, L, lp, tp)
  | 0, set, n, hm, h0, hn, hq => by
    have hR := q_ZR hZ
    have hp := q_pow8 hR
    rw [q_crs] at hq
    refine v_crumbsM_L23 ?_
    rw [hc.1.1, q_shl1 _ (by omega)]
    refine ⟨⟨by omega, by omega⟩, ⟨by omega, by omega⟩, fun _ => ⟨hi, fun c => ?_, fun c => ?_⟩, fun q => by omega⟩
    · rw [if_neg c] at hq; exact hq
    · rw [if_pos c] at hq; exact hq
  | m + 1, set, n, hm, h0, hn, hq => by
    have hR := q_ZR hZ
    have hp := q_pow8 hR
    rw [q_crs, q_zs_tea hd, ← q_sm2_eq] at hq
    have ci := q_cin_rg hZ set (q_yR (q_zy z)) 0
    obtain ⟨-, -, s3, s4, s5, -⟩ := q_zs_ok hZ
    have sr : -1000 ≤ q_sm2 z set (q_yR (q_zy z)) 0 ∧ q_sm2 z set (q_yR (q_zy z)) 0 ≤ 1000 := by
      rw [q_sm2_eq, ← q_zs_tea hd]; omega
    refine v_crumbsM_L23 ?_
    rw [hc.1.1, q_shl1 _ (by omega)]
    refine ⟨⟨by omega, by omega⟩, ⟨by omega, by omega⟩, fun q => by omega, fun q => ?_⟩
    refine m_set_L hZ hc W (set := set) (by omega) (q_yR (q_zy z)) 0 0 1 (Nat.zero_add _) (Or.inr rfl) (fun v c hv hcc => ?_)
    rw [Int.zero_add] at hv
    refine v_crumbsM_L35 ?_
    rw [hc.1.1, hv]
    refine ⟨⟨by omega, by omega⟩, ⟨by omega, by omega⟩, fun _ => ?_, fun q => by omega⟩
    cases hmy : q_my z set (q_yR (q_zy z)) 0 with
    | false =>
      rw [hmy] at hcc
      rw [if_neg (by simp)] at hcc
      rw [if_neg (fun h => by rw [hmy] at h; exact absurd h.1 (by decide))] at hq
      subst hcc
      exact ⟨by decide, fun _ => m_crs_L hZ hd hc W he hi m (set + 1) n (by omega) h0 (by omega) hq, fun h => absurd rfl h⟩
    | true =>
      rw [hmy, if_pos ⟨rfl, rfl⟩] at hcc
      subst hcc
      refine ⟨by decide, fun h => absurd h (by decide), fun _ => ⟨⟨by omega, by omega⟩, he, fun c => ⟨⟨by omega, by omega⟩, hi, fun c2 => ?_, fun c2 => ?_⟩, fun c => ?_⟩⟩
      · rw [if_pos ⟨hmy, c⟩, if_neg c2] at hq
        exact m_crs_L hZ hd hc W he hi m (set + 1) (n + 1) (by omega) (by omega) (by omega) hq
      · rw [if_pos ⟨hmy, c⟩, if_pos c2] at hq
        exact hq
      · rw [if_neg (fun h => c h.2)] at hq
        exact m_crs_L hZ hd hc W he hi m (set + 1) n (by omega) h0 (by omega) hq
theorem c_crumbs {g : x_G} {k : Nat} {Q : x_Q} {I L : Nat → Nat → Int} {lp tp : Nat} {z : q_Z} (hZ : q_Zk z) (hc : q_ZC I lp z) {e i : Int} (he : x_rg e) (hi : x_rg i) (hq : ∀ I', x_fr q_fK I I' → Q [x_i (q_aCrumbs z e i)] (I', L, lp, tp)) : x_X g (k + 15) 148 [x_r 1, x_i e, x_i i] (I, L, lp, tp) Q := by
  have out : ∀ I' v, x_fr q_fK I I' → v = q_aCrumbs z e i → Q [x_i v] (I', L, lp, tp) := fun I' v f e => by rw [e]; exact hq I' f
  have hR := q_ZR hZ
  unfold q_aCrumbs at out
  have no : ¬ ((¬ q_yR (q_zy z) = 0 ∧ 0 ≤ e ∧ e ≤ 200) ∧ -1 ≤ i) → Q [x_i (-1)] (I, L, lp, tp) := fun h => out _ _ (x_fr_refl _ _) (by rw [if_neg h])
  refine v_crumbs (k := k + 13) ?_
  rw [q_ZC_R hc]
  refine ⟨⟨by omega, by omega⟩, fun q => ⟨he, fun q2 => no (by omega), fun q2 => ⟨fun q3 => no (by omega), fun q3 => ⟨hi, fun q4 => ?_, fun q4 => no (by omega)⟩⟩⟩, fun q => no (by omega)⟩
  refine x_le (show k + 12 ≤ k + 13 by omega) (s_goRound hZ hc (fun I' f' c' W' => ⟨rfl, c_crs_L (k := k + 10) hZ c' W' he hi _ 0 0 (Nat.zero_add _) (by decide) (by decide) (out _ _ f' ?_)⟩))
  rw [if_pos ⟨⟨by omega, q2, q3⟩, q4⟩]
theorem m_crumbs {g : x_G} {k : Nat} {Q : x_Q} {I L : Nat → Nat → Int} {lp tp : Nat} {z : q_Z} {FA : Nat → q_AV} {nl : Nat} (hk : 110 ≤ k) (hZ : q_Zk z) (hd : q_Zd z) (hm : q_ZM I L z FA nl) {e i : Int} (he : x_rg e) (hi : x_rg i) (hq : ∀ I' L' tp', x_fr q_fE I I' → q_Lo L L' → q_LM I' L' FA nl → Q [x_i (q_aCrumbs z e i)] (I', L', lp, tp')) : x_X g k 266 [x_r 179, x_i e, x_i i] (I, L, lp, tp) Q := by
  obtain ⟨k, rfl⟩ : ∃ k', k = k' + 2 := ⟨k - 2, by omega⟩
  have out : ∀ I' L' tp' v, x_fr q_fE I I' → q_Lo L L' → q_LM I' L' FA nl → v = q_aCrumbs z e i → Q [x_i v] (I', L', lp, tp') := fun I' L' tp' v f l m e => by rw [e]; exact hq I' L' tp' f l m
  have hR := q_ZR hZ
  have hm0 := q_ZM_0 hm 0
  have o0 : ∀ v, v = q_aCrumbs z e i → Q [x_i v] (x_u I 179 0 0, L, lp, tp) := fun v e => out _ _ _ v (q_fE0 _ _) (fun _ _ _ => rfl) hm0.1.2.2.2.2.2.1 e
  unfold q_aCrumbs at out o0
  have no : ¬ ((¬ q_yR (q_zy z) = 0 ∧ 0 ≤ e ∧ e ≤ 200) ∧ -1 ≤ i) → Q [x_i (-1)] (x_u I 179 0 0, L, lp, tp) := fun h => o0 _ (by rw [if_neg h])
  refine v_crumbsM ?_
  rw [hm.1.1]
  refine ⟨⟨by omega, by omega⟩, fun q => no (by omega), fun q => ⟨he, fun q2 => ⟨hi, fun q3 => ?_, fun q3 => no (by omega)⟩, fun q2 => no (by omega)⟩⟩
  refine m_goNow (by omega) hZ hm0 (fun I' L' tp' f' l' m' W' => ⟨rfl, m_crs_L hZ hd m' W' he hi _ 0 0 (Nat.zero_add _) (by decide) (by decide) (out I' L' tp' _ (q_fE1 f') l' m'.1.2.2.2.2.2.1 ?_)⟩)
  rw [if_pos ⟨⟨by omega, q2⟩, q3⟩]
