/-! meet, thaw -/
def q_mtl (z : q_Z) (r : Nat) : Nat → Nat → Int → Int
  | 0, _, b => b
  | m + 1, k, b => q_mtl z r m (k + 1) (if (q_sb (q_zs z)).testBit k = true ∧ q_yst (q_zy z) (r : Int) k ≤ q_sM (q_zs z) k ∧ (b = -1 ∨ q_sH (q_zs z) b.toNat < q_sH (q_zs z) k) then (k : Int) else b)
def q_ans (z : q_Z) (w b : Int) : Int := if b = -1 then b else if w = 0 then b else q_sH (q_zs z) b.toNat
def q_aMeet (z : q_Z) (r w : Int) : Int := if q_in8 z r ∧ q_bit w then q_ans z w (q_mtl z r.toNat (q_yR (q_zy z)) 0 (-1)) else -1
def q_bok (z : q_Z) (b : Int) (k : Nat) : Prop := b = -1 ∨ ∃ n : Nat, b = (n : Int) ∧ n < k ∧ (q_sb (q_zs z)).testBit n = true
theorem c_meet_L {g : x_G} {k : Nat} {Q : x_Q} {I L : Nat → Nat → Int} {lp tp : Nat} {z : q_Z} (hZ : q_Zk z) (hc : q_ZC I lp z) (W : q_Wc I (q_zs z) (q_zv z)) {r : Nat} (hr : r < q_yR (q_zy z)) {w : Int} (hw : x_rg w) : ∀ (m i : Nat) (b : Int), i + m = q_yR (q_zy z) → q_bok z b i → Q [x_i (q_ans z w (q_mtl z r m i b))] (I, L, lp, tp) → x_S g (k + 2) 155 Q 15 [x_r 1, x_i (r : Int), x_i w, x_i b, x_i (i : Int), x_n] [] (I, L, lp, tp)
  | 0, i, b, hm, hb, hq => by
    have hR := q_ZR hZ
    rw [q_mtl] at hq
    unfold q_ans at hq
    refine v_meet_L15 ?_
    rw [q_ZC_R hc]
    refine ⟨⟨by omega, by omega⟩, ⟨by omega, by omega⟩, fun _ => ?_, fun q => by omega⟩
    rcases hb with rfl | ⟨n, rfl, hn, hbit⟩
    · rw [if_pos rfl] at hq
      exact ⟨by decide, fun _ => hq, fun q => absurd rfl q⟩
    · rw [if_neg (by omega)] at hq
      obtain ⟨a1, a2, a3⟩ := q_Wc_at hZ W n (by omega)
      rw [show ((n : Int)).toNat = n by omega] at *
      rw [(a3 hbit).2.1]
      refine ⟨⟨by omega, by omega⟩, fun q => by omega, fun _ => ⟨hw, fun c => ⟨⟨by omega, by omega⟩, ?_⟩, fun c => ?_⟩⟩
      · rw [if_neg c] at hq; exact hq
      · rw [if_pos c] at hq; exact hq
  | m + 1, i, b, hm, hb, hq => by
    have hR := q_ZR hZ
    rw [q_mtl] at hq
    obtain ⟨a1, a2, a3⟩ := q_Wc_at hZ W i (by omega)
    obtain ⟨d1, d2⟩ := q_fc_dist (f := (r : Int)) hR hc.1.1 (Or.inr ⟨by omega, by omega⟩) (show i < q_yR (q_zy z) by omega)
    have er : q_fc (r : Int) = (r : Int) := if_neg (by omega)
    rw [er] at d1 d2
    obtain ⟨hs1, -⟩ := q_ymi_rg hZ.1 (f := (r : Int)) (Or.inr ⟨by omega, by omega⟩) (show i < q_yR (q_zy z) by omega)
    have d2' : I 17 ((r : Int) * 8 + (i : Int)).toNat = q_yst (q_zy z) (r : Int) i := d2
    have stay : ¬ ((q_sb (q_zs z)).testBit i = true ∧ q_yst (q_zy z) (r : Int) i ≤ q_sM (q_zs z) i ∧ (b = -1 ∨ q_sH (q_zs z) b.toNat < q_sH (q_zs z) i)) → x_S g (k + 2) 155 Q 15 [x_r 1, x_i (r : Int), x_i w, x_i b, x_i ((i : Int) + 1), x_n] [] (I, L, lp, tp) := by
      intro h
      rw [if_neg h] at hq
      refine c_meet_L hZ hc W hr hw m (i + 1) b (by omega) ?_ hq
      rcases hb with e | ⟨n, e, hn, hbit⟩
      · exact Or.inl e
      · exact Or.inr ⟨n, e, by omega, hbit⟩
    have take : ((q_sb (q_zs z)).testBit i = true ∧ q_yst (q_zy z) (r : Int) i ≤ q_sM (q_zs z) i ∧ (b = -1 ∨ q_sH (q_zs z) b.toNat < q_sH (q_zs z) i)) → x_S g (k + 2) 155 Q 15 [x_r 1, x_i (r : Int), x_i w, x_i (i : Int), x_i ((i : Int) + 1), x_n] [] (I, L, lp, tp) := by
      intro h
      rw [if_pos h] at hq
      exact c_meet_L hZ hc W hr hw m (i + 1) (i : Int) (by omega) (Or.inr ⟨i, rfl, by omega, h.1⟩) hq
    refine v_meet_L15 ?_
    rw [q_ZC_R hc, a2, show ((i : Int)).toNat = i by omega, d2']
    refine ⟨⟨by omega, by omega⟩, ⟨by omega, by omega⟩, fun q => by omega, fun q => ⟨a1, ⟨by omega, by omega⟩, fun c => ?_, fun c => stay (fun h => c h.1)⟩⟩
    obtain ⟨-, ⟨m1, m2⟩, h1, h2⟩ := (q_zs_rg hZ).1 i c
    rw [(a3 c).1, (a3 c).2.1]
    refine ⟨d1, ⟨by omega, by omega⟩, ⟨by omega, by omega⟩, ⟨by omega, by omega⟩, fun c2 => stay (fun h => by have := h.2.1; omega), fun c2 => ?_⟩
    rcases hb with rfl | ⟨n, rfl, hn, hbit⟩
    · exact ⟨by decide, fun _ => take ⟨c, c2, Or.inl rfl⟩, fun h => absurd rfl h⟩
    · obtain ⟨-, -, b3⟩ := q_Wc_at hZ W n (by omega)
      obtain ⟨-, -, g1, g2⟩ := (q_zs_rg hZ).1 n hbit
      rw [show ((n : Int)).toNat = n by omega] at *
      rw [(b3 hbit).2.1]
      exact ⟨⟨by omega, by omega⟩, fun h => by omega, fun _ => ⟨⟨by omega, by omega⟩, ⟨by omega, by omega⟩, ⟨by omega, by omega⟩, fun c3 => stay (fun h => by have := h.2.2; omega), fun c3 => take ⟨c, c2, Or.inr c3⟩⟩⟩
theorem m_meet_L {g : x_G} {k : Nat} {Q : x_Q} {I L : Nat → Nat → Int} {lp tp : Nat} {z : q_Z} {FA : Nat → q_AV} {nl : Nat} (hZ : q_Zk z) (hc : q_ZM I L z FA nl) (W : q_Wm I (q_zy z) (q_zs z)) {r : Nat} (hr : r < q_yR (q_zy z)) {w : Int} (hw : x_rg w) : ∀ (m i : Nat) (b : Int), i + m = q_yR (q_zy z) → q_bok z b i → Q [x_i (q_ans z w (q_mtl z r m i b))] (I, L, lp, tp) → x_S g (k + 4) 273 Q 21 [x_r 179, x_i (r : Int), x_i w, x_i b, x_i (i : Int)] [] (I, L, lp, tp)
  | 0, i, b, hm, hb, hq => by
    have hR := q_ZR hZ
    rw [q_mtl] at hq
    unfold q_ans at hq
    refine v_meetM_L21 (k := k + 2) ?_
    rw [hc.1.1]
    refine ⟨⟨by omega, by omega⟩, ⟨by omega, by omega⟩, fun _ => ?_, fun q => by omega⟩
    rcases hb with rfl | ⟨n, rfl, hn, hbit⟩
    · rw [if_pos rfl] at hq
      exact ⟨by decide, fun _ => hq, fun q => absurd rfl q⟩
    · rw [if_neg (by omega)] at hq
      obtain ⟨a1, a2, a3, a4⟩ := q_Wm_at hZ W n (by omega)
      rw [show ((n : Int)).toNat = n by omega] at *
      rw [(a3 hbit).2]
      refine ⟨⟨by omega, by omega⟩, fun q => by omega, fun _ => ⟨hw, fun c => ⟨⟨by omega, by omega⟩, ?_⟩, fun c => ?_⟩⟩
      · rw [if_neg c] at hq; exact hq
      · rw [if_pos c] at hq; exact hq
  | m + 1, i, b, hm, hb, hq => by
    have hR := q_ZR hZ
    rw [q_mtl] at hq
    obtain ⟨a1, a2, a3, a4⟩ := q_Wm_at hZ W i (by omega)
    obtain ⟨hs1, -⟩ := q_ymi_rg hZ.1 (f := (r : Int)) (Or.inr ⟨by omega, by omega⟩) (show i < q_yR (q_zy z) by omega)
    have stay : ¬ ((q_sb (q_zs z)).testBit i = true ∧ q_yst (q_zy z) (r : Int) i ≤ q_sM (q_zs z) i ∧ (b = -1 ∨ q_sH (q_zs z) b.toNat < q_sH (q_zs z) i)) → x_S g (k + 4) 273 Q 21 [x_r 179, x_i (r : Int), x_i w, x_i b, x_i ((i : Int) + 1)] [] (I, L, lp, tp) := by
      intro h
      rw [if_neg h] at hq
      refine m_meet_L hZ hc W hr hw m (i + 1) b (by omega) ?_ hq
      rcases hb with e | ⟨n, e, hn, hbit⟩
      · exact Or.inl e
      · exact Or.inr ⟨n, e, by omega, hbit⟩
    have take : ((q_sb (q_zs z)).testBit i = true ∧ q_yst (q_zy z) (r : Int) i ≤ q_sM (q_zs z) i ∧ (b = -1 ∨ q_sH (q_zs z) b.toNat < q_sH (q_zs z) i)) → x_S g (k + 4) 273 Q 21 [x_r 179, x_i (r : Int), x_i w, x_i (i : Int), x_i ((i : Int) + 1)] [] (I, L, lp, tp) := by
      intro h
      rw [if_pos h] at hq
      exact m_meet_L hZ hc W hr hw m (i + 1) (i : Int) (by omega) (Or.inr ⟨i, rfl, by omega, h.1⟩) hq
    refine v_meetM_L21 (k := k + 2) ?_
    rw [hc.1.1, show ((i : Int)).toNat = i by omega]
    refine ⟨⟨by omega, by omega⟩, ⟨by omega, by omega⟩, fun q => by omega, fun q => ⟨a1, ⟨by omega, by omega⟩, fun c => stay (fun h => by rw [a2.mp c] at h; exact absurd h.1 (by decide)), fun c => ?_⟩⟩
    have cb : (q_sb (q_zs z)).testBit i = true := by
      cases e : (q_sb (q_zs z)).testBit i with
      | true => rfl
      | false => exact absurd (a2.mpr e) c
    obtain ⟨-, ⟨m1, m2⟩, h1, h2⟩ := (q_zs_rg hZ).1 i cb
    refine m_stepsTo (k := k) hZ.1 hc.1.2.2.1 (f := (r : Int)) (Or.inr ⟨by omega, by omega⟩) (t := i) (by omega) ⟨_, rfl, ?_⟩
    dsimp only
    rw [(a3 cb).1, (a3 cb).2]
    refine ⟨⟨by omega, by omega⟩, ⟨by omega, by omega⟩, ⟨by omega, by omega⟩, fun c2 => ?_, fun c2 => stay (fun h => by have := h.2.1; omega)⟩
    rcases hb with rfl | ⟨n, rfl, hn, hbit⟩
    · exact ⟨by decide, fun _ => take ⟨cb, c2, Or.inl rfl⟩, fun h => absurd rfl h⟩
    · obtain ⟨-, -, b3, -⟩ := q_Wm_at hZ W n (by omega)
      obtain ⟨-, -, g1, g2⟩ := (q_zs_rg hZ).1 n hbit
      rw [show ((n : Int)).toNat = n by omega] at *
      rw [(b3 hbit).2]
      exact ⟨⟨by omega, by omega⟩, fun h => by omega, fun _ => ⟨⟨by omega, by omega⟩, ⟨by omega, by omega⟩, ⟨by omega, by omega⟩, fun c3 => stay (fun h => by have := h.2.2; omega), fun c3 => take ⟨cb, c2, Or.inr c3⟩⟩⟩
theorem c_meet {g : x_G} {k : Nat} {Q : x_Q} {I L : Nat → Nat → Int} {lp tp : Nat} {z : q_Z} (hZ : q_Zk z) (hc : q_ZC I lp z) {r w : Int} (hr : x_rg r) (hw : x_rg w) (hq : ∀ I', x_fr q_fK I I' → Q [x_i (q_aMeet z r w)] (I', L, lp, tp)) : x_X g (k + 15) 155 [x_r 1, x_i r, x_i w] (I, L, lp, tp) Q := by
  have out : ∀ I' v, x_fr q_fK I I' → v = q_aMeet z r w → Q [x_i v] (I', L, lp, tp) := fun I' v f e => by rw [e]; exact hq I' f
  have hR := q_ZR hZ
  unfold q_aMeet at out
  have no : ¬ (q_in8 z r ∧ q_bit w) → Q [x_i (-1)] (I, L, lp, tp) := fun h => out _ _ (x_fr_refl _ _) (by rw [if_neg h])
  refine v_meet (k := k + 13) ?_
  rw [q_ZC_R hc]
  refine ⟨hr, fun q => no (by omega), fun q => ⟨⟨by omega, by omega⟩, fun q2 => no (by omega), fun q2 => ?_⟩⟩
  obtain ⟨n, rfl⟩ := Int.eq_ofNat_of_zero_le q
  have go : q_bit w → x_X g (k + 13) 182 [x_r 1] (I, L, lp, tp) (fun rv w5 => rv = [] ∧ x_S g (k + 13 + 2) 155 Q 15 [x_r 1, x_i (n : Int), x_i w, x_i (-1), x_i 0, x_n] [] w5) := by
    intro bw
    refine x_le (show k + 12 ≤ k + 13 by omega) (s_goRound hZ hc (fun I' f' c' W' => ⟨rfl, c_meet_L hZ c' W' (by omega) hw (q_yR (q_zy z)) 0 (-1) (by omega) (Or.inl rfl) (out _ _ f' ?_)⟩))
    rw [if_pos ⟨⟨q, q2⟩, bw⟩]; rfl
  exact ⟨hw, fun c => go (Or.inl c), fun c => ⟨fun c2 => no (fun h => by have := h.2; unfold q_bit at this; omega), fun c2 => go (Or.inr c2)⟩⟩
theorem m_meet {g : x_G} {k : Nat} {Q : x_Q} {I L : Nat → Nat → Int} {lp tp : Nat} {z : q_Z} {FA : Nat → q_AV} {nl : Nat} (hk : 110 ≤ k) (hZ : q_Zk z) (hm : q_ZM I L z FA nl) {r w : Int} (hr : x_rg r) (hw : x_rg w) (hq : ∀ I' L' tp', x_fr q_fE I I' → q_Lo L L' → q_LM I' L' FA nl → Q [x_i (q_aMeet z r w)] (I', L', lp, tp')) : x_X g k 273 [x_r 179, x_i r, x_i w] (I, L, lp, tp) Q := by
  obtain ⟨k, rfl⟩ : ∃ k', k = k' + 4 := ⟨k - 4, by omega⟩
  have out : ∀ I' L' tp' v, x_fr q_fE I I' → q_Lo L L' → q_LM I' L' FA nl → v = q_aMeet z r w → Q [x_i v] (I', L', lp, tp') := fun I' L' tp' v f l m e => by rw [e]; exact hq I' L' tp' f l m
  have hR := q_ZR hZ
  have hm0 := q_ZM_0 hm 0
  have o0 : ∀ v, v = q_aMeet z r w → Q [x_i v] (x_u I 179 0 0, L, lp, tp) := fun v e => out _ _ _ v (q_fE0 _ _) (fun _ _ _ => rfl) hm0.1.2.2.2.2.2.1 e
  unfold q_aMeet at out o0
  have no : ¬ (q_in8 z r ∧ q_bit w) → Q [x_i (-1)] (x_u I 179 0 0, L, lp, tp) := fun h => o0 _ (by rw [if_neg h])
  refine v_meetM (k := k + 2) ?_
  rw [hm.1.1]
  refine ⟨hr, fun q => no (by omega), fun q => ⟨⟨by omega, by omega⟩, fun q2 => no (by omega), fun q2 => ⟨hw, fun c => ?_, fun c => no (fun h => c (q_bit_in.mpr h.2))⟩⟩⟩
  obtain ⟨n, rfl⟩ := Int.eq_ofNat_of_zero_le q
  refine m_goNow (by omega) hZ hm0 (fun I' L' tp' f' l' m' W' => ⟨rfl, m_meet_L hZ m' W' (by omega) hw (q_yR (q_zy z)) 0 (-1) (by omega) (Or.inl rfl) (out I' L' tp' _ (q_fE1 f') l' m'.1.2.2.2.2.2.1 ?_)⟩)
  rw [if_pos ⟨⟨q, q2⟩, q_bit_in.mp c⟩]; rfl
/-- the same, set out with another heat -/
def q_zset (z : q_Z) (v : Int) : q_Z := (q_zy z, q_zr z, q_zd z, v, q_zc z)
theorem q_go_sb (y : q_Y) : ∀ (l : List Nat) (s s' : q_S), q_sb s = q_sb s' → q_sb (q_go y s l) = q_sb (q_go y s' l)
  | [], _, _, h => h
  | r :: l, s, s', h => q_go_sb y l _ _ (by show q_sb s ||| 2 ^ r = q_sb s' ||| 2 ^ r; rw [h])
theorem q_zset_sb (z : q_Z) (v : Int) : q_sb (q_zs (q_zset z v)) = q_sb (q_zs z) := q_go_sb _ _ _ _ rfl
theorem q_zset_k {z : q_Z} (hZ : q_Zk z) {v : Int} (hv : 0 ≤ v ∧ v ≤ 99) : q_Zk (q_zset z v) := ⟨hZ.1, hZ.2.1, hv, hZ.2.2.2.1, hZ.2.2.2.2⟩
def q_th (z : q_Z) (r : Nat) : Nat → Nat → Int
  | 0, _ => -1
  | m + 1, v => if q_yto (q_zy z) (5 * r + 3) ≤ q_sH (q_zs (q_zset z (v : Int))) r then (v : Int) else q_th z r m (v + 1)
def q_aThaw (z : q_Z) (r : Int) : Int := if q_in8 z r ∧ (q_sb (q_zs z)).testBit r.toNat = true then q_th z r.toNat 90 10 else -1
theorem c_thaw_L {g : x_G} {k : Nat} {Q : x_Q} {L : Nat → Nat → Int} {lp tp : Nat} {z : q_Z} (hZ : q_Zk z) {r : Nat} (hr : r < q_yR (q_zy z)) (hb : (q_sb (q_zs z)).testBit r = true) (I0 : Nat → Nat → Int) (hq : ∀ I', x_fr q_fK I0 I' → Q [x_i (q_th z r 90 10)] (I', L, lp, tp)) : ∀ (m v : Nat) (I : Nat → Nat → Int), v + m = 100 → x_fr q_fK I0 I → q_ZC I lp z → q_th z r m v = q_th z r 90 10 → x_S g (k + 12) 156 Q 14 [x_r 1, x_i (r : Int), x_i (q_yto (q_zy z) (5 * r + 3)), x_i (v : Int)] [] (I, L, lp, tp)
  | 0, v, I, hm, f, hc, he => by
    rw [q_th] at he
    refine v_thaw_L14 (k := k + 9) ⟨⟨by omega, by omega⟩, fun _ => ?_, fun q => by omega⟩
    rw [he]; exact hq I f
  | m + 1, v, I, hm, f, hc, he => by
    have hR := q_ZR hZ
    rw [q_th] at he
    obtain ⟨-, t3, -⟩ := q_yto_rg hZ.1 hr
    obtain ⟨h1, ⟨h2, h2'⟩, h3, h4, h5⟩ := hc
    have hc : q_ZC I lp z := ⟨h1, ⟨h2, h2'⟩, h3, h4, h5⟩
    have fin : v ≤ 99 → ∀ I' : Nat → Nat → Int, x_fr q_fK I I' → q_Wc I' (q_zs (q_zset z (v : Int))) (q_zv (q_zset z (v : Int))) → ([] : List x_V) = [] ∧ ((0 ≤ (r : Int) ∧ (r : Int) < 8) ∧ ((x_rg (I' 158 ((r : Int)).toNat)) ∧ ((x_rg (q_yto (q_zy z) (5 * r + 3))) ∧ (((I' 158 ((r : Int)).toNat) < (q_yto (q_zy z) (5 * r + 3)) → x_S g (k + 9 + 3) 156 Q 14 [x_r 1, x_i (r : Int), x_i (q_yto (q_zy z) (5 * r + 3)), x_i ((v : Int) + 1)] [] (I', L, lp, tp)) ∧ ((q_yto (q_zy z) (5 * r + 3)) ≤ (I' 158 ((r : Int)).toNat) → Q [x_i (v : Int)] (I', L, lp, tp)))))) := by
      intro hv I' f' W'
      have hZ' := q_zset_k hZ (v := (v : Int)) ⟨by omega, by omega⟩
      have hb' : (q_sb (q_zs (q_zset z (v : Int)))).testBit r = true := by rw [q_zset_sb]; exact hb
      obtain ⟨a1, a2, a3⟩ := q_Wc_at hZ' W' r (by omega)
      obtain ⟨-, -, g1, g2⟩ := (q_zs_rg hZ').1 r hb'
      rw [show ((r : Int)).toNat = r by omega, (a3 hb').2.1]
      refine ⟨rfl, ⟨by omega, by omega⟩, ⟨by omega, by omega⟩, ⟨by omega, by omega⟩, fun c => ?_, fun c => ?_⟩
      · rw [if_neg (by omega)] at he
        exact c_thaw_L hZ hr hb I0 hq m (v + 1) I' (by omega) (x_fr_trans f f') (q_ZC_fK hZ hc f') he
      · rw [if_pos c] at he
        rw [he]; exact hq I' (x_fr_trans f f')
    refine v_thaw_L14 (k := k + 9) ?_
    rw [h3]
    refine ⟨⟨by omega, by omega⟩, fun q => by omega, fun q => ?_⟩
    have fin' := fin (by omega)
    rcases h2' with ⟨e, hrd⟩ | ⟨w, e, hw, hrd⟩
    · rw [e]
      exact ⟨by decide, fun _ => s_along hZ.1 h1 (Or.inl ⟨rfl, hrd⟩) hZ.2.1 ⟨by omega, by omega⟩ h5 hZ.2.2.2.1 fin', fun q => absurd q (by decide)⟩
    · rw [e]
      have hw4 : w = 0 ∨ w = 1 ∨ w = 2 ∨ w = 3 := by omega
      refine ⟨⟨by omega, by omega⟩, fun q => by omega, fun _ => ⟨⟨by omega, by omega⟩, fun q => by omega, fun _ => ⟨⟨by omega, by omega⟩, ?_, ?_⟩⟩⟩
      · rcases hw4 with rfl | rfl | rfl | rfl <;> decide
      · have ex : x_r0 149 ((w : Int)).toNat = 150 + w := by rcases hw4 with rfl | rfl | rfl | rfl <;> rfl
        rw [ex]
        exact s_along hZ.1 h1 (Or.inr ⟨by omega, fun x hx => ⟨hrd x hx, hZ.2.2.2.2 x hx⟩⟩) hZ.2.1 ⟨by omega, by omega⟩ h5 hZ.2.2.2.1 fin'
theorem c_thaw {g : x_G} {k : Nat} {Q : x_Q} {I L : Nat → Nat → Int} {lp tp : Nat} {z : q_Z} (hZ : q_Zk z) (hc : q_ZC I lp z) {r : Int} (hr : x_rg r) (hq : ∀ I', x_fr q_fK I I' → Q [x_i (q_aThaw z r)] (I', L, lp, tp)) : x_X g (k + 15) 156 [x_r 1, x_i r] (I, L, lp, tp) Q := by
  have out : ∀ I' v, x_fr q_fK I I' → v = q_aThaw z r → Q [x_i v] (I', L, lp, tp) := fun I' v f e => by rw [e]; exact hq I' f
  have hR := q_ZR hZ
  unfold q_aThaw at out
  refine v_thaw (k := k + 12) ?_
  rw [q_ZC_R hc]
  refine ⟨hr, fun q => out _ _ (x_fr_refl _ _) (by rw [if_neg (by omega)]), fun q => ⟨⟨by omega, by omega⟩, fun q2 => out _ _ (x_fr_refl _ _) (by rw [if_neg (by omega)]), fun q2 => ?_⟩⟩
  obtain ⟨n, rfl⟩ := Int.eq_ofNat_of_zero_le q
  refine s_goRound hZ hc (fun I' f' c' W' => ⟨rfl, ?_⟩)
  obtain ⟨a1, a2, a3⟩ := q_Wc_at hZ W' n (by omega)
  dsimp only
  rw [a2, show ((n : Int)).toNat = n by omega] at *
  refine ⟨a1, ⟨by omega, by omega⟩, fun hb => ⟨⟨by omega, by omega⟩, ?_⟩, fun hb => out _ _ f' (by rw [if_neg (fun h => hb h.2)])⟩
  have e16 : I' 16 ((n : Int) * 5 + 3).toNat = q_yto (q_zy z) (5 * n + 3) := by rw [show ((n : Int) * 5 + 3).toNat = 5 * n + 3 by omega]; exact c'.1.1.2.2.1 _ (by omega)
  rw [e16]
  refine c_thaw_L (k := k + 3) hZ (by omega) hb I (fun I2 f2 => out _ _ f2 ?_) 90 10 I' rfl f' c' rfl
  rw [if_pos ⟨⟨q, q2⟩, hb⟩]
abbrev q_fT2 : List (Nat × Nat × Nat) := [(190, 25, 26), (179, 0, 1), (179, 8, 15), (179, 17, 18), (183, 0, 128), (195, 0, 8191), (179, 35, 43), (191, 0, 8), (192, 0, 8), (193, 0, 8)]
theorem q_ZM_set {I L : Nat → Nat → Int} {z : q_Z} {FA : Nat → q_AV} {nl : Nat} (hR : q_yR (q_zy z) ≤ 8) (h : q_ZM I L z FA nl) (v : Int) : q_ZM (x_u I 190 25 v) L (q_zset z v) FA nl := by
  obtain ⟨⟨y1, y2, y3, y4, y5, y6, y7⟩, h2, h3, h4, h5⟩ := h
  refine ⟨⟨y1, y2, y3, y4, fun r hr => ?_, q_LM_u y6 (by decide), y7⟩, h2, fun r hr => ?_, rfl, h5⟩
  · have hr' : r < q_yR (q_zy z) := hr
    rw [x_u_ne _ _ (by omega)]; exact y5 r hr
  · have hr' : r < q_yR (q_zy z) := hr
    rw [x_u_ne _ _ (by omega)]; exact h3 r hr
theorem q_zset_set (z : q_Z) (u v : Int) : q_zset (q_zset z u) v = q_zset z v := rfl
theorem m_thaw_L {g : x_G} {k : Nat} {Q : x_Q} {lp : Nat} {z : q_Z} {FA : Nat → q_AV} {nl : Nat} (hk : 97 ≤ k) (hZ : q_Zk z) {r : Nat} (hr : r < q_yR (q_zy z)) (I0 L0 : Nat → Nat → Int) (h25 : I0 190 25 = q_zh z) (hq : ∀ I' L' tp', x_fr q_fE I0 I' → q_Lo L0 L' → q_LM I' L' FA nl → Q [x_i (if (q_sb (q_zs z)).testBit r = true then q_th z r 90 10 else -1)] (I', L', lp, tp')) : ∀ (v : Nat) (u b : Int) (I L : Nat → Nat → Int) (tp : Nat), v + 9 ≤ 99 → x_fr q_fT2 I0 I → q_Lo L0 L → q_ZM I L (q_zset z u) FA nl → b = (if (q_sb (q_zs z)).testBit r = true then q_th z r (90 - v) (10 + v) else -1) → x_S g (k + 2) 274 Q 18 [x_r 179, x_i (r : Int), x_i (q_zh z), x_i b, x_i ((v + 9 : Nat) : Int)] [] (I, L, lp, tp)
  | 0, u, b, I, L, tp, hv, f, hL, hm, hb => by
    refine v_thawM_L18 ⟨by decide, fun _ => ?_, fun q => absurd q (by decide)⟩
    rw [hb]
    refine hq _ _ _ (fun a x hx => ?_) hL (q_LM_u hm.1.2.2.2.2.2.1 (by decide))
    rw [x_u_eq]
    by_cases e : a = 190 ∧ x = 25
    · rw [if_pos e, e.1, e.2, h25]
    · rw [if_neg e]
      refine f a x ?_
      cases e2 : x_mem q_fT2 a x with
      | false => rfl
      | true =>
        obtain ⟨t, t1, t2, t3, t4⟩ := (x_mem_iff _ a x).mp e2
        rcases List.mem_cons.mp t1 with rfl | t1
        · exact absurd ⟨t2, by simp at t3 t4; omega⟩ e
        · rw [(x_mem_iff q_fE a x).mpr ⟨t, t1, t2, t3, t4⟩] at hx; cases hx
  | v + 1, u, b, I, L, tp, hv, f, hL, hm, hb => by
    have hR := q_ZR hZ
    have hZ' := q_zset_k hZ (v := ((v + 1 + 9 : Nat) : Int)) ⟨by omega, by omega⟩
    obtain ⟨-, t3, -⟩ := q_yto_rg hZ.1 hr
    have hm1 := q_ZM_set (z := q_zset z u) hR hm ((v + 1 + 9 : Nat) : Int)
    rw [q_zset_set] at hm1
    have fr1 : x_fr q_fT2 I0 (x_u I 190 25 ((v + 1 + 9 : Nat) : Int)) := x_fr_u f rfl
    refine v_thawM_L18 ⟨⟨by omega, by omega⟩, fun q => by omega, fun _ => ?_⟩
    refine m_goNow hk hZ' hm1 (fun I' L' tp' f' l' m' W' => ⟨rfl, ?_⟩)
    have frr : x_fr q_fT2 I0 I' := x_fr_trans fr1 (x_fr_mono f' rfl)
    have hL' : q_Lo L0 L' := fun a x ha => (l' a x ha).trans (hL a x ha)
    obtain ⟨a1, a2, a3, a4⟩ := q_Wm_at hZ' W' r hr
    rw [q_zset_sb] at a2 a3
    dsimp only
    rw [show ((r : Int)).toNat = r by omega]
    have e9 : ((v + 1 + 9 : Nat) : Int) + -1 = ((v + 9 : Nat) : Int) := by omega
    rw [e9]
    refine ⟨a1, ⟨by omega, by omega⟩, fun c => ?_, fun c => ?_⟩
    · have cf := a2.mp c
      refine m_thaw_L hk hZ hr I0 L0 h25 hq v _ b I' L' tp' (by omega) frr hL' m' ?_
      rw [hb, if_neg (by rw [cf]; decide), if_neg (by rw [cf]; decide)]
    · have cb : (q_sb (q_zs z)).testBit r = true := by
        cases e : (q_sb (q_zs z)).testBit r with
        | true => rfl
        | false => exact absurd (a2.mpr e) c
      have hb' : (q_sb (q_zs (q_zset z ((v + 1 + 9 : Nat) : Int)))).testBit r = true := by rw [q_zset_sb]; exact cb
      obtain ⟨-, -, g1, g2⟩ := (q_zs_rg hZ').1 r hb'
      have e186 : I' 186 (5 * (r : Int) + 3).toNat = q_yto (q_zy z) (5 * r + 3) := by rw [show (5 * (r : Int) + 3).toNat = 5 * r + 3 by omega]; exact m'.1.2.2.1 _ (by show 5 * r + 3 < 5 * q_yR (q_zy z); omega)
      rw [(a3 cb).2, e186]
      have hth : q_th z r (90 - v) (10 + v) = if q_yto (q_zy z) (5 * r + 3) ≤ q_sH (q_zs (q_zset z ((v + 1 + 9 : Nat) : Int))) r then ((v + 1 + 9 : Nat) : Int) else b := by
        rw [hb, if_pos cb, show 90 - v = (90 - (v + 1)) + 1 by omega, q_th, show 10 + v = v + 1 + 9 by omega, show v + 1 + 9 + 1 = 10 + (v + 1) by omega]
      refine ⟨⟨by omega, by omega⟩, ⟨by omega, by omega⟩, ⟨by omega, by omega⟩, ⟨by omega, by omega⟩, fun c2 => ?_, fun c2 => ?_⟩
      · refine m_thaw_L hk hZ hr I0 L0 h25 hq v _ b I' L' tp' (by omega) frr hL' m' ?_
        rw [if_pos cb, hth, if_neg (by omega)]
      · refine m_thaw_L hk hZ hr I0 L0 h25 hq v _ _ I' L' tp' (by omega) frr hL' m' ?_
        rw [if_pos cb, hth, if_pos c2]
theorem m_thaw {g : x_G} {k : Nat} {Q : x_Q} {I L : Nat → Nat → Int} {lp tp : Nat} {z : q_Z} {FA : Nat → q_AV} {nl : Nat} (hk : 110 ≤ k) (hZ : q_Zk z) (hm : q_ZM I L z FA nl) {r : Int} (hr : x_rg r) (hq : ∀ I' L' tp', x_fr q_fE I I' → q_Lo L L' → q_LM I' L' FA nl → Q [x_i (q_aThaw z r)] (I', L', lp, tp')) : x_X g k 274 [x_r 179, x_i r] (I, L, lp, tp) Q := by
  obtain ⟨k, rfl⟩ : ∃ k', k = k' + 2 := ⟨k - 2, by omega⟩
  have out : ∀ I' L' tp' v, x_fr q_fE I I' → q_Lo L L' → q_LM I' L' FA nl → v = q_aThaw z r → Q [x_i v] (I', L', lp, tp') := fun I' L' tp' v f l m e => by rw [e]; exact hq I' L' tp' f l m
  have hR := q_ZR hZ
  have hm0 := q_ZM_0 hm 0
  have o0 : ∀ v, v = q_aThaw z r → Q [x_i v] (x_u I 179 0 0, L, lp, tp) := fun v e => out _ _ _ v (q_fE0 _ _) (fun _ _ _ => rfl) hm0.1.2.2.2.2.2.1 e
  unfold q_aThaw at out o0
  have h25 : I 190 25 = q_zh z := hm.2.2.2.1
  refine v_thawM ?_
  rw [hm.1.1, h25]
  refine ⟨hr, fun q => o0 _ (by rw [if_neg (by omega)]), fun q => ⟨⟨by omega, by omega⟩, fun q2 => o0 _ (by rw [if_neg (by omega)]), fun q2 => ?_⟩⟩
  obtain ⟨n, rfl⟩ := Int.eq_ofNat_of_zero_le q
  refine m_thaw_L (by omega) hZ (r := n) (by omega) (x_u I 179 0 0) L h25 (fun I' L' tp' f l m => out I' L' tp' _ (x_fr_trans (q_fE0 _ _) f) l m ?_) 90 (q_zh z) (-1) _ L tp (by omega) (x_fr_refl _ _) (fun _ _ _ => rfl) hm0 ?_
  · by_cases e : (q_sb (q_zs z)).testBit n = true
    · rw [if_pos e, if_pos ⟨⟨q, q2⟩, e⟩]; rfl
    · rw [if_neg e, if_neg (fun h => e h.2)]
  · by_cases e : (q_sb (q_zs z)).testBit n = true
    · rw [if_pos e]; rfl
    · rw [if_neg e]
