/-! game, rests -/
def q_gn (z : q_Z) (r : Nat) (o t : Int) : Int := if o = 1 then (if t = 1 then Int.tdiv (q_hAt z r) 10 - 1 else Int.tdiv (q_hAt z r) 10 + 2) else (if t = 1 then Int.tdiv (q_hAt z r) 10 - 1 else Int.tdiv (q_hAt z r) 10)
theorem q_gn_rg {z : q_Z} (hZ : q_Zk z) (r : Nat) (o t : Int) : -1 ≤ q_gn z r o t ∧ q_gn z r o t ≤ 100 := by
  have h := q_hAt_rg hZ r
  have e : Int.tdiv (q_hAt z r) 10 = q_hAt z r / 10 := Int.tdiv_eq_ediv_of_nonneg h.1
  unfold q_gn
  rw [e]
  repeat' split
  all_goals constructor <;> omega
theorem s_gain {g : x_G} {k : Nat} {Q : x_Q} {I L : Nat → Nat → Int} {lp tp : Nat} {z : q_Z} (hZ : q_Zk z) (W : q_Wc I (q_zs z) (q_zv z)) {r : Nat} (hr : r < q_yR (q_zy z)) {o t : Int} (ho : x_rg o) (ht : x_rg t) (hq : Q [x_i (q_gn z r o t)] (I, L, lp, tp)) : x_X g (k + 3) 154 [x_r 1, x_i (r : Int), x_i o, x_i t] (I, L, lp, tp) Q := by
  have hR := q_ZR hZ
  obtain ⟨a1, a2, a3⟩ := q_Wc_at hZ W r (by omega)
  have hh := q_hAt_rg hZ r
  unfold q_gn at hq
  unfold q_hAt at hq hh
  refine v_gain ?_
  rw [a2, show ((r : Int)).toNat = r by omega]
  refine ⟨a1, ⟨by omega, by omega⟩, fun hb => ?_, fun hb => ?_⟩
  · rw [if_pos hb] at hq hh
    rw [(a3 hb).2.1]
    refine ⟨⟨by omega, by omega⟩, ⟨by omega, by omega⟩, ho, fun c => ⟨ht, fun c2 => ?_, fun c2 => ?_⟩, fun c => ⟨ht, fun c2 => ?_, fun c2 => ?_⟩⟩
    · rw [if_neg c, if_neg c2] at hq; exact hq
    · rw [if_neg c, if_pos c2] at hq; exact hq
    · rw [if_pos c, if_neg c2] at hq; exact hq
    · rw [if_pos c, if_pos c2] at hq; exact hq
  · rw [if_neg hb] at hq
    refine ⟨ho, fun c => ⟨ht, fun c2 => ?_, fun c2 => ?_⟩, fun c => ⟨ht, fun c2 => ?_, fun c2 => ?_⟩⟩
    · rw [if_neg c, if_neg c2] at hq; exact hq
    · rw [if_neg c, if_pos c2] at hq; exact hq
    · rw [if_pos c, if_neg c2] at hq; exact hq
    · rw [if_pos c, if_pos c2] at hq; exact hq
theorem m_gameOf {g : x_G} {k : Nat} {Q : x_Q} {I L : Nat → Nat → Int} {lp tp : Nat} {z : q_Z} (hZ : q_Zk z) (W : q_Wm I (q_zy z) (q_zs z)) {r : Nat} (hr : r < q_yR (q_zy z)) {o t : Int} (ho : x_rg o) (ht : x_rg t) (hq : Q [x_i (q_gn z r o t)] (I, L, lp, tp)) : x_X g (k + 3) 269 [x_r 179, x_i (r : Int), x_i o, x_i t] (I, L, lp, tp) Q := by
  have hR := q_ZR hZ
  obtain ⟨a1, a2, a3, a4⟩ := q_Wm_at hZ W r hr
  have hh := q_hAt_rg hZ r
  unfold q_gn at hq
  unfold q_hAt at hq hh
  refine v_gameOf ?_
  rw [show ((r : Int)).toNat = r by omega]
  refine ⟨a1, ⟨by omega, by omega⟩, fun hb => ?_, fun hb => ?_⟩
  · rw [if_neg (show ¬ (q_sb (q_zs z)).testBit r = true by rw [a2.mp hb]; simp)] at hq
    refine ⟨ho, fun c => ⟨ht, fun c2 => ?_, fun c2 => ?_⟩, fun c => ⟨ht, fun c2 => ?_, fun c2 => ?_⟩⟩
    · rw [if_neg c, if_neg c2] at hq; exact hq
    · rw [if_neg c, if_pos c2] at hq; exact hq
    · rw [if_pos c, if_neg c2] at hq; exact hq
    · rw [if_pos c, if_pos c2] at hq; exact hq
  · have hb' : (q_sb (q_zs z)).testBit r = true := by
      cases e : (q_sb (q_zs z)).testBit r with
      | true => rfl
      | false => exact absurd (a2.mpr e) hb
    rw [if_pos hb'] at hq hh
    rw [(a3 hb').2]
    refine ⟨⟨by omega, by omega⟩, ⟨by omega, by omega⟩, ho, fun c => ⟨ht, fun c2 => ?_, fun c2 => ?_⟩, fun c => ⟨ht, fun c2 => ?_, fun c2 => ?_⟩⟩
    · rw [if_neg c, if_neg c2] at hq; exact hq
    · rw [if_neg c, if_pos c2] at hq; exact hq
    · rw [if_pos c, if_neg c2] at hq; exact hq
    · rw [if_pos c, if_pos c2] at hq; exact hq
abbrev q_bit (v : Int) : Prop := v = 0 ∨ v = 1
def q_aGame (z : q_Z) (a b x y w : Int) : Int := if (q_in8 z a ∧ q_in8 z b ∧ ¬ a = b) ∧ q_bit x ∧ q_bit y ∧ q_bit w then (if w = 0 then q_gn z a.toNat x y else q_gn z b.toNat y x) else -1000000
theorem c_game {g : x_G} {k : Nat} {Q : x_Q} {I L : Nat → Nat → Int} {lp tp : Nat} {z : q_Z} (hZ : q_Zk z) (hc : q_ZC I lp z) {a b x y w : Int} (ha : x_rg a) (hb : x_rg b) (hx : x_rg x) (hy : x_rg y) (hw : x_rg w) (hq : ∀ I', x_fr q_fK I I' → Q [x_i (q_aGame z a b x y w)] (I', L, lp, tp)) : x_X g (k + 15) 151 [x_r 1, x_i a, x_i b, x_i x, x_i y, x_i w] (I, L, lp, tp) Q := by
  have out : ∀ I' v, x_fr q_fK I I' → v = q_aGame z a b x y w → Q [x_i v] (I', L, lp, tp) := fun I' v f e => by rw [e]; exact hq I' f
  have hR := q_ZR hZ
  unfold q_aGame at out
  have no : ¬ ((q_in8 z a ∧ q_in8 z b ∧ ¬ a = b) ∧ q_bit x ∧ q_bit y ∧ q_bit w) → Q [x_i (-1000000)] (I, L, lp, tp) := fun h => out _ _ (x_fr_refl _ _) (by rw [if_neg h])
  refine v_game (k := k + 12) ?_
  rw [q_ZC_R hc]
  refine ⟨ha, fun q => no (by omega), fun q => ⟨⟨by omega, by omega⟩, fun q2 => no (by omega), fun q2 => ⟨hb, fun q3 => no (by omega), fun q3 => ⟨fun q4 => no (by omega), fun q4 => ⟨fun q5 => no (by omega), fun q5 => ⟨hx, ?_⟩⟩⟩⟩⟩⟩
  obtain ⟨n, rfl⟩ := Int.eq_ofNat_of_zero_le q
  obtain ⟨m, rfl⟩ := Int.eq_ofNat_of_zero_le q3
  have one : q_bit x → q_bit y → w = 0 → x_X g (k + 12) 182 [x_r 1] (I, L, lp, tp) (fun rv w10 => rv = [] ∧ x_X g (k + 12) 154 [x_r 1, x_i (n : Int), x_i x, x_i y] w10 (fun rv w15 => ∃ z14, rv = [x_i z14] ∧ Q [x_i z14] w15)) := by
    intro bx by_ ew
    refine s_goRound hZ hc (fun I' f' c' W' => ⟨rfl, x_le (show 3 ≤ k + 12 by omega) (s_gain (k := 0) hZ W' (by omega) hx hy ⟨_, rfl, out _ _ f' ?_⟩)⟩)
    rw [if_pos ⟨⟨⟨q, q2⟩, ⟨q3, q4⟩, q5⟩, bx, by_, Or.inl ew⟩, if_pos ew]; rfl
  have two : q_bit x → q_bit y → w = 1 → x_X g (k + 12) 182 [x_r 1] (I, L, lp, tp) (fun rv w10 => rv = [] ∧ x_X g (k + 12) 154 [x_r 1, x_i (m : Int), x_i y, x_i x] w10 (fun rv w15 => ∃ z14, rv = [x_i z14] ∧ Q [x_i z14] w15)) := by
    intro bx by_ ew
    refine s_goRound hZ hc (fun I' f' c' W' => ⟨rfl, x_le (show 3 ≤ k + 12 by omega) (s_gain (k := 0) hZ W' (by omega) hy hx ⟨_, rfl, out _ _ f' ?_⟩)⟩)
    rw [if_pos ⟨⟨⟨q, q2⟩, ⟨q3, q4⟩, q5⟩, bx, by_, Or.inr ew⟩, if_neg (by omega)]; rfl
  refine ⟨fun c => ⟨hy, fun d => ⟨hw, fun e => one (Or.inl c) (Or.inl d) e, fun e => ⟨fun e2 => no (fun h => by have := h.2.2.2; unfold q_bit at this; omega), fun e2 => two (Or.inl c) (Or.inl d) e2⟩⟩, fun d => ⟨fun d2 => no (fun h => by have := h.2.2.1; unfold q_bit at this; omega), fun d2 => ⟨hw, fun e => one (Or.inl c) (Or.inr d2) e, fun e => ⟨fun e2 => no (fun h => by have := h.2.2.2; unfold q_bit at this; omega), fun e2 => two (Or.inl c) (Or.inr d2) e2⟩⟩⟩⟩, fun c => ⟨fun c2 => no (fun h => by have := h.2.1; unfold q_bit at this; omega), fun c2 => ⟨hy, fun d => ⟨hw, fun e => one (Or.inr c2) (Or.inl d) e, fun e => ⟨fun e2 => no (fun h => by have := h.2.2.2; unfold q_bit at this; omega), fun e2 => two (Or.inr c2) (Or.inl d) e2⟩⟩, fun d => ⟨fun d2 => no (fun h => by have := h.2.2.1; unfold q_bit at this; omega), fun d2 => ⟨hw, fun e => one (Or.inr c2) (Or.inr d2) e, fun e => ⟨fun e2 => no (fun h => by have := h.2.2.2; unfold q_bit at this; omega), fun e2 => two (Or.inr c2) (Or.inr d2) e2⟩⟩⟩⟩⟩⟩
theorem q_bit_in {v : Int} : (0 ≤ v ∧ v ≤ 1) ↔ q_bit v := by unfold q_bit; omega
theorem m_game {g : x_G} {k : Nat} {Q : x_Q} {I L : Nat → Nat → Int} {lp tp : Nat} {z : q_Z} {FA : Nat → q_AV} {nl : Nat} (hk : 110 ≤ k) (hZ : q_Zk z) (hm : q_ZM I L z FA nl) {a b x y w : Int} (ha : x_rg a) (hb : x_rg b) (hx : x_rg x) (hy : x_rg y) (hw : x_rg w) (hq : ∀ I' L' tp', x_fr q_fE I I' → q_Lo L L' → q_LM I' L' FA nl → Q [x_i (q_aGame z a b x y w)] (I', L', lp, tp')) : x_X g k 271 [x_r 179, x_i a, x_i b, x_i x, x_i y, x_i w] (I, L, lp, tp) Q := by
  obtain ⟨k, rfl⟩ : ∃ k', k = k' + 3 := ⟨k - 3, by omega⟩
  have out : ∀ I' L' tp' v, x_fr q_fE I I' → q_Lo L L' → q_LM I' L' FA nl → v = q_aGame z a b x y w → Q [x_i v] (I', L', lp, tp') := fun I' L' tp' v f l m e => by rw [e]; exact hq I' L' tp' f l m
  have hR := q_ZR hZ
  have hm0 := q_ZM_0 hm 0
  have o0 : ∀ v, v = q_aGame z a b x y w → Q [x_i v] (x_u I 179 0 0, L, lp, tp) := fun v e => out _ _ _ v (q_fE0 _ _) (fun _ _ _ => rfl) hm0.1.2.2.2.2.2.1 e
  unfold q_aGame at out o0
  have no : ¬ ((q_in8 z a ∧ q_in8 z b ∧ ¬ a = b) ∧ q_bit x ∧ q_bit y ∧ q_bit w) → Q [x_i (-1000000)] (x_u I 179 0 0, L, lp, tp) := fun h => o0 _ (by rw [if_neg h])
  refine v_gameM ?_
  rw [hm.1.1]
  refine ⟨ha, fun q => no (by omega), fun q => ⟨⟨by omega, by omega⟩, fun q2 => no (by omega), fun q2 => ⟨hb, fun q3 => no (by omega), fun q3 => ⟨fun q4 => no (by omega), fun q4 => ⟨fun q5 => no (by omega), fun q5 => ⟨hx, fun c => ⟨hy, fun d => ⟨hw, fun e => ?_, fun e => no (fun h => e (q_bit_in.mpr h.2.2.2))⟩, fun d => no (fun h => d (q_bit_in.mpr h.2.2.1))⟩, fun c => no (fun h => c (q_bit_in.mpr h.2.1))⟩⟩⟩⟩⟩⟩
  obtain ⟨n, rfl⟩ := Int.eq_ofNat_of_zero_le q
  obtain ⟨m, rfl⟩ := Int.eq_ofNat_of_zero_le q3
  rw [if_pos ⟨⟨⟨q, q2⟩, ⟨q3, q4⟩, q5⟩, q_bit_in.mp c, q_bit_in.mp d, q_bit_in.mp e⟩] at out
  refine m_goNow (by omega) hZ hm0 (fun I' L' tp' f' l' m' W' => ⟨rfl, fun e2 => x_le (show 3 ≤ k by omega) (m_gameOf (k := 0) hZ W' (by omega) hy hx ⟨_, rfl, out I' L' tp' _ (q_fE1 f') l' m'.1.2.2.2.2.2.1 ?_⟩), fun e2 => x_le (show 3 ≤ k by omega) (m_gameOf (k := 0) hZ W' (by omega) hx hy ⟨_, rfl, out I' L' tp' _ (q_fE1 f') l' m'.1.2.2.2.2.2.1 ?_⟩)⟩)
  · rw [if_neg e2]; rfl
  · rw [if_pos e2]; rfl
def q_rs (z : q_Z) (a b : Nat) (i : Int) : Nat → Nat → Int → Int
  | 0, _, n => if i = -1 then n else -1
  | m + 1, p, n => if q_gn z a ((p / 2 : Nat) : Int) ((p % 2 : Nat) : Int) < q_gn z a (1 - ((p / 2 : Nat) : Int)) ((p % 2 : Nat) : Int) ∨ q_gn z b ((p % 2 : Nat) : Int) ((p / 2 : Nat) : Int) < q_gn z b (1 - ((p % 2 : Nat) : Int)) ((p / 2 : Nat) : Int) then q_rs z a b i m (p + 1) n else if n = i then 10 * ((p / 2 : Nat) : Int) + ((p % 2 : Nat) : Int) else q_rs z a b i m (p + 1) (n + 1)
def q_aRests (z : q_Z) (a b i : Int) : Int := if (q_in8 z a ∧ q_in8 z b ∧ ¬ a = b) ∧ -1 ≤ i then q_rs z a.toNat b.toNat i 4 0 0 else -1
theorem c_rests_L {g : x_G} {k : Nat} {Q : x_Q} {I L : Nat → Nat → Int} {lp tp : Nat} {z : q_Z} (hZ : q_Zk z) (W : q_Wc I (q_zs z) (q_zv z)) {a b : Nat} (ha : a < q_yR (q_zy z)) (hb : b < q_yR (q_zy z)) {i : Int} (hi : x_rg i) : ∀ (m p : Nat) (n : Int), p + m = 4 → 0 ≤ n → n ≤ (p : Int) → Q [x_i (q_rs z a b i m p n)] (I, L, lp, tp) → x_S g (k + 6) 152 Q 16 [x_r 1, x_i (a : Int), x_i (b : Int), x_i i, x_i n, x_i (p : Int), x_n, x_n] [] (I, L, lp, tp)
  | 0, p, n, hm, h0, hn, hq => by
    rw [q_rs] at hq
    refine v_rests_L16 (k := k + 3) ⟨⟨by omega, by omega⟩, fun _ => ⟨hi, fun c => ?_, fun c => ?_⟩, fun q => by omega⟩
    · rw [if_neg c] at hq; exact hq
    · rw [if_pos c] at hq; exact hq
  | m + 1, p, n, hm, h0, hn, hq => by
    rw [q_rs] at hq
    have e1 : x_shr (p : Int) 1 = ((p / 2 : Nat) : Int) := by
      have := q_shr (p : Int) 1 ⟨by omega, by omega⟩ (by decide)
      rw [show ((1 : Nat) : Int) = 1 from rfl] at this
      rw [this]; omega
    have e2 : x_and (p : Int) 1 = ((p % 2 : Nat) : Int) := by rw [q_and1]; omega
    have l1 : p / 2 ≤ 1 := by omega
    have l2 : p % 2 ≤ 1 := by omega
    refine v_rests_L16 (k := k + 3) ?_
    rw [e1, e2]
    have rx : x_rg ((p / 2 : Nat) : Int) := ⟨by omega, by omega⟩
    have ry : x_rg ((p % 2 : Nat) : Int) := ⟨by omega, by omega⟩
    have rx1 : x_rg (1 - ((p / 2 : Nat) : Int)) := ⟨by omega, by omega⟩
    have ry1 : x_rg (1 - ((p % 2 : Nat) : Int)) := ⟨by omega, by omega⟩
    have g1 := q_gn_rg hZ a (1 - ((p / 2 : Nat) : Int)) ((p % 2 : Nat) : Int)
    have g2 := q_gn_rg hZ a ((p / 2 : Nat) : Int) ((p % 2 : Nat) : Int)
    have g3 := q_gn_rg hZ b (1 - ((p % 2 : Nat) : Int)) ((p / 2 : Nat) : Int)
    have g4 := q_gn_rg hZ b ((p % 2 : Nat) : Int) ((p / 2 : Nat) : Int)
    refine ⟨⟨by omega, by omega⟩, fun q => by omega, fun q => s_gain (k := k) hZ W ha rx1 ry ⟨_, rfl, s_gain (k := k) hZ W ha rx ry ⟨_, rfl, ⟨by omega, by omega⟩, ⟨by omega, by omega⟩, fun c => ?_, fun c => s_gain (k := k) hZ W hb ry1 rx ⟨_, rfl, s_gain (k := k) hZ W hb ry rx ⟨_, rfl, ⟨by omega, by omega⟩, ⟨by omega, by omega⟩, fun c2 => ⟨⟨by omega, by omega⟩, hi, fun c3 => ?_, fun c3 => ?_⟩, fun c2 => ?_⟩⟩⟩⟩⟩
    · rw [if_pos (Or.inl c)] at hq
      exact c_rests_L hZ W ha hb hi m (p + 1) n (by omega) h0 (by omega) hq
    · rw [if_neg (by omega), if_neg c3] at hq
      exact c_rests_L hZ W ha hb hi m (p + 1) (n + 1) (by omega) (by omega) (by omega) hq
    · rw [if_neg (by omega), if_pos c3] at hq
      exact hq
    · rw [if_pos (Or.inr c2)] at hq
      exact c_rests_L hZ W ha hb hi m (p + 1) n (by omega) h0 (by omega) hq
theorem m_rests_L {g : x_G} {k : Nat} {Q : x_Q} {I L : Nat → Nat → Int} {lp tp : Nat} {z : q_Z} (hZ : q_Zk z) (W : q_Wm I (q_zy z) (q_zs z)) {a b : Nat} (ha : a < q_yR (q_zy z)) (hb : b < q_yR (q_zy z)) {i : Int} (hi : x_rg i) : ∀ (m p : Nat) (n : Int), p + m = 4 → 0 ≤ n → n ≤ (p : Int) → Q [x_i (q_rs z a b i m p n)] (I, L, lp, tp) → x_S g (k + 6) 272 Q 19 [x_r 179, x_i (a : Int), x_i (b : Int), x_i i, x_i n, x_i (p : Int), x_n, x_n] [] (I, L, lp, tp)
  | 0, p, n, hm, h0, hn, hq => by
    rw [q_rs] at hq
    refine v_restsM_L19 (k := k + 3) ⟨⟨by omega, by omega⟩, fun _ => ⟨hi, fun c => ?_, fun c => ?_⟩, fun q => by omega⟩
    · rw [if_neg c] at hq; exact hq
    · rw [if_pos c] at hq; exact hq
  | m + 1, p, n, hm, h0, hn, hq => by
    rw [q_rs] at hq
    have e1 : Int.tdiv (p : Int) 2 = ((p / 2 : Nat) : Int) := by rw [Int.tdiv_eq_ediv_of_nonneg (by omega)]; omega
    have e2 : Int.tmod (p : Int) 2 = ((p % 2 : Nat) : Int) := by rw [Int.tmod_eq_emod_of_nonneg (by omega)]; omega
    have l1 : p / 2 ≤ 1 := by omega
    have l2 : p % 2 ≤ 1 := by omega
    refine v_restsM_L19 (k := k + 3) ?_
    rw [e1, e2]
    have rx : x_rg ((p / 2 : Nat) : Int) := ⟨by omega, by omega⟩
    have ry : x_rg ((p % 2 : Nat) : Int) := ⟨by omega, by omega⟩
    have rx1 : x_rg (1 - ((p / 2 : Nat) : Int)) := ⟨by omega, by omega⟩
    have ry1 : x_rg (1 - ((p % 2 : Nat) : Int)) := ⟨by omega, by omega⟩
    have g1 := q_gn_rg hZ a (1 - ((p / 2 : Nat) : Int)) ((p % 2 : Nat) : Int)
    have g2 := q_gn_rg hZ a ((p / 2 : Nat) : Int) ((p % 2 : Nat) : Int)
    have g3 := q_gn_rg hZ b (1 - ((p % 2 : Nat) : Int)) ((p / 2 : Nat) : Int)
    have g4 := q_gn_rg hZ b ((p % 2 : Nat) : Int) ((p / 2 : Nat) : Int)
    refine ⟨⟨by omega, by omega⟩, fun q => by omega, fun q => m_gameOf (k := k) hZ W ha rx1 ry ⟨_, rfl, m_gameOf (k := k) hZ W ha rx ry ⟨_, rfl, ⟨by omega, by omega⟩, ⟨by omega, by omega⟩, fun c => ?_, fun c => m_gameOf (k := k) hZ W hb ry1 rx ⟨_, rfl, m_gameOf (k := k) hZ W hb ry rx ⟨_, rfl, ⟨by omega, by omega⟩, ⟨by omega, by omega⟩, fun c2 => ⟨⟨by omega, by omega⟩, hi, fun c3 => ?_, fun c3 => ?_⟩, fun c2 => ?_⟩⟩⟩⟩⟩
    · rw [if_pos (Or.inl c)] at hq
      exact m_rests_L hZ W ha hb hi m (p + 1) n (by omega) h0 (by omega) hq
    · rw [if_neg (by omega), if_neg c3] at hq
      exact m_rests_L hZ W ha hb hi m (p + 1) (n + 1) (by omega) (by omega) (by omega) hq
    · rw [if_neg (by omega), if_pos c3] at hq
      exact hq
    · rw [if_pos (Or.inr c2)] at hq
      exact m_rests_L hZ W ha hb hi m (p + 1) n (by omega) h0 (by omega) hq
theorem c_rests {g : x_G} {k : Nat} {Q : x_Q} {I L : Nat → Nat → Int} {lp tp : Nat} {z : q_Z} (hZ : q_Zk z) (hc : q_ZC I lp z) {a b i : Int} (ha : x_rg a) (hb : x_rg b) (hi : x_rg i) (hq : ∀ I', x_fr q_fK I I' → Q [x_i (q_aRests z a b i)] (I', L, lp, tp)) : x_X g (k + 15) 152 [x_r 1, x_i a, x_i b, x_i i] (I, L, lp, tp) Q := by
  have out : ∀ I' v, x_fr q_fK I I' → v = q_aRests z a b i → Q [x_i v] (I', L, lp, tp) := fun I' v f e => by rw [e]; exact hq I' f
  have hR := q_ZR hZ
  unfold q_aRests at out
  have no : ¬ ((q_in8 z a ∧ q_in8 z b ∧ ¬ a = b) ∧ -1 ≤ i) → Q [x_i (-1)] (I, L, lp, tp) := fun h => out _ _ (x_fr_refl _ _) (by rw [if_neg h])
  refine v_rests (k := k + 12) ?_
  rw [q_ZC_R hc]
  refine ⟨ha, fun q => no (by omega), fun q => ⟨⟨by omega, by omega⟩, fun q2 => no (by omega), fun q2 => ⟨hb, fun q3 => no (by omega), fun q3 => ⟨fun q4 => no (by omega), fun q4 => ⟨fun q5 => no (by omega), fun q5 => ⟨hi, fun q6 => ?_, fun q6 => no (by omega)⟩⟩⟩⟩⟩⟩
  obtain ⟨n, rfl⟩ := Int.eq_ofNat_of_zero_le q
  obtain ⟨m, rfl⟩ := Int.eq_ofNat_of_zero_le q3
  refine s_goRound hZ hc (fun I' f' c' W' => ⟨rfl, c_rests_L (k := k + 9) hZ W' (by omega) (by omega) hi 4 0 0 rfl (by decide) (by decide) (out _ _ f' ?_)⟩)
  rw [if_pos ⟨⟨⟨q, q2⟩, ⟨q3, q4⟩, q5⟩, q6⟩]; rfl
theorem m_rests {g : x_G} {k : Nat} {Q : x_Q} {I L : Nat → Nat → Int} {lp tp : Nat} {z : q_Z} {FA : Nat → q_AV} {nl : Nat} (hk : 110 ≤ k) (hZ : q_Zk z) (hm : q_ZM I L z FA nl) {a b i : Int} (ha : x_rg a) (hb : x_rg b) (hi : x_rg i) (hq : ∀ I' L' tp', x_fr q_fE I I' → q_Lo L L' → q_LM I' L' FA nl → Q [x_i (q_aRests z a b i)] (I', L', lp, tp')) : x_X g k 272 [x_r 179, x_i a, x_i b, x_i i] (I, L, lp, tp) Q := by
  obtain ⟨k, rfl⟩ : ∃ k', k = k' + 6 := ⟨k - 6, by omega⟩
  have out : ∀ I' L' tp' v, x_fr q_fE I I' → q_Lo L L' → q_LM I' L' FA nl → v = q_aRests z a b i → Q [x_i v] (I', L', lp, tp') := fun I' L' tp' v f l m e => by rw [e]; exact hq I' L' tp' f l m
  have hR := q_ZR hZ
  have hm0 := q_ZM_0 hm 0
  have o0 : ∀ v, v = q_aRests z a b i → Q [x_i v] (x_u I 179 0 0, L, lp, tp) := fun v e => out _ _ _ v (q_fE0 _ _) (fun _ _ _ => rfl) hm0.1.2.2.2.2.2.1 e
  unfold q_aRests at out o0
  have no : ¬ ((q_in8 z a ∧ q_in8 z b ∧ ¬ a = b) ∧ -1 ≤ i) → Q [x_i (-1)] (x_u I 179 0 0, L, lp, tp) := fun h => o0 _ (by rw [if_neg h])
  refine v_restsM (k := k + 3) ?_
  rw [hm.1.1]
  refine ⟨ha, fun q => no (by omega), fun q => ⟨⟨by omega, by omega⟩, fun q2 => no (by omega), fun q2 => ⟨hb, fun q3 => no (by omega), fun q3 => ⟨fun q4 => no (by omega), fun q4 => ⟨fun q5 => no (by omega), fun q5 => ⟨hi, fun q6 => ?_, fun q6 => no (by omega)⟩⟩⟩⟩⟩⟩
  obtain ⟨n, rfl⟩ := Int.eq_ofNat_of_zero_le q
  obtain ⟨m, rfl⟩ := Int.eq_ofNat_of_zero_le q3
  refine m_goNow (by omega) hZ hm0 (fun I' L' tp' f' l' m' W' => ⟨rfl, m_rests_L hZ W' (by omega) (by omega) hi 4 0 0 rfl (by decide) (by decide) (out I' L' tp' _ (q_fE1 f') l' m'.1.2.2.2.2.2.1 ?_)⟩)
  rw [if_pos ⟨⟨⟨q, q2⟩, ⟨q3, q4⟩, q5⟩, q6⟩]; rfl
