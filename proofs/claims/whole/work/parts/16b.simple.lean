/-! simple calls: rule, steps, floor, nearest, doors -/
def q_aRule (z : q_Z) (w : Int) : Int := if ¬ q_yR (q_zy z) = 0 then (if w = 0 then q_zh z else if w = 1 then q_yru (q_zy z) 1 else if w = 2 then q_ypa (q_zy z) else if w = 3 then q_zc z else -1) else -1
theorem c_rule {g : x_G} {k : Nat} {Q : x_Q} {I L : Nat → Nat → Int} {lp tp : Nat} {z : q_Z} (hZ : q_Zk z) (hc : q_ZC I lp z) {w : Int} (hw : x_rg w) (hq : Q [x_i (q_aRule z w)] (I, L, lp, tp)) : x_X g (k + 2) 126 [x_r 1, x_i w] (I, L, lp, tp) Q := by
  have hR := q_ZR hZ
  unfold q_aRule at hq
  refine v_rule ?_
  rw [q_ZC_R hc, hc.2.2.2.1, hc.2.2.2.2, hc.1.2.2.1, hc.1.1.2.1 1 (by decide)]
  refine ⟨⟨by omega, by omega⟩, fun c => ?_, fun c => by rw [if_neg (by omega)] at hq; exact hq⟩
  rw [if_pos (by omega)] at hq
  refine ⟨hw, fun e => ?_, fun e => ?_, fun e => ?_, fun e => ?_, fun e => ?_⟩
  · rw [if_pos e] at hq; exact hq
  · rw [if_neg (by omega), if_pos e] at hq; exact hq
  · rw [if_neg (by omega), if_neg (by omega), if_pos e] at hq; exact hq
  · rw [if_neg (by omega), if_neg (by omega), if_neg (by omega), if_pos e] at hq; exact hq
  · rw [if_neg (by omega), if_neg (by omega), if_neg (by omega), if_neg (by omega)] at hq; exact hq
theorem m_rule {g : x_G} {k : Nat} {Q : x_Q} {I L : Nat → Nat → Int} {lp tp : Nat} {z : q_Z} {FA : Nat → q_AV} {nl : Nat} (hZ : q_Zk z) (hm : q_ZM I L z FA nl) {w : Int} (hw : x_rg w) (hq : Q [x_i (q_aRule z w)] (x_u I 179 0 0, L, lp, tp)) : x_X g (k + 2) 234 [x_r 179, x_i w] (I, L, lp, tp) Q := by
  have hR := q_ZR hZ
  unfold q_aRule at hq
  refine v_ruleM ?_
  rw [hm.1.1, hm.2.2.2.1, hm.2.2.2.2, hm.1.2.2.2.1, hm.1.2.1 1 (by decide)]
  refine ⟨⟨by omega, by omega⟩, fun c => by rw [if_neg (by omega)] at hq; exact hq, fun c => ⟨hw, fun c1 => ⟨fun e => ⟨fun e1 => ⟨fun e2 => ?_, fun e2 => ?_⟩, fun e1 => ?_⟩, fun e => ?_⟩, fun c1 => ?_⟩⟩
  · rw [if_pos (by omega), if_neg (by omega), if_neg (by omega), if_neg (by omega), if_pos (by omega)] at hq; exact hq
  · rw [if_pos (by omega), if_neg (by omega), if_neg (by omega), if_pos (by omega)] at hq; exact hq
  · rw [if_pos (by omega), if_neg (by omega), if_pos (by omega)] at hq; exact hq
  · rw [if_pos (by omega), if_pos (by omega)] at hq; exact hq
  · rw [if_pos (by omega), if_neg (by omega), if_neg (by omega), if_neg (by omega), if_neg (by omega)] at hq; exact hq
def q_aSteps (z : q_Z) (r s : Int) : Int := if (0 ≤ r ∧ r < (q_yR (q_zy z) : Int)) ∧ (0 ≤ s ∧ s < (q_yR (q_zy z) : Int)) then q_yst (q_zy z) r s.toNat else -1
theorem c_steps {g : x_G} {k : Nat} {Q : x_Q} {I L : Nat → Nat → Int} {lp tp : Nat} {z : q_Z} (hZ : q_Zk z) (hc : q_ZC I lp z) {r s : Int} (hr : x_rg r) (hs : x_rg s) (hq : Q [x_i (q_aSteps z r s)] (I, L, lp, tp)) : x_X g (k + 2) 131 [x_r 1, x_i r, x_i s] (I, L, lp, tp) Q := by
  have hR := q_ZR hZ
  unfold q_aSteps at hq
  have no : ¬ ((0 ≤ r ∧ r < (q_yR (q_zy z) : Int)) ∧ (0 ≤ s ∧ s < (q_yR (q_zy z) : Int))) → Q [x_i (-1)] (I, L, lp, tp) := fun h => by rw [if_neg h] at hq; exact hq
  refine v_steps ?_
  rw [q_ZC_R hc]
  refine ⟨hr, fun c => no (by omega), fun c1 => ⟨⟨by omega, by omega⟩, fun c => no (by omega), fun c2 => ⟨hs, fun c => no (by omega), fun c3 => ⟨fun c => no (by omega), fun c4 => ?_⟩⟩⟩⟩
  obtain ⟨b, rfl⟩ := Int.eq_ofNat_of_zero_le c3
  obtain ⟨d1, d2⟩ := q_fc_dist hR hc.1.1 (f := r) (Or.inr ⟨c1, c2⟩) (show b < q_yR (q_zy z) by omega)
  rw [if_pos ⟨⟨c1, c2⟩, c3, c4⟩, show ((b : Int)).toNat = b by omega] at hq
  rw [show q_fc r = r by unfold q_fc; rw [if_neg (by omega)]] at d1 d2
  refine ⟨d1, ?_⟩
  rw [d2]; exact hq
theorem m_steps {g : x_G} {k : Nat} {Q : x_Q} {I L : Nat → Nat → Int} {lp tp : Nat} {z : q_Z} (hZ : q_Zk z) (hy : q_Yl I (q_zy z)) {r s : Int} (hr : x_rg r) (hs : x_rg s) (hq : Q [x_i (q_aSteps z r s)] (x_u I 179 0 0, L, lp, tp)) : x_X g (k + 4) 241 [x_r 179, x_i r, x_i s] (I, L, lp, tp) Q := by
  have hR := q_ZR hZ
  unfold q_aSteps at hq
  have no : ¬ ((0 ≤ r ∧ r < (q_yR (q_zy z) : Int)) ∧ (0 ≤ s ∧ s < (q_yR (q_zy z) : Int))) → Q [x_i (-1)] (x_u I 179 0 0, L, lp, tp) := fun h => by rw [if_neg h] at hq; exact hq
  refine v_stepsM (k := k + 2) ?_
  rw [hy.1]
  refine ⟨hr, fun c => no (by omega), fun c1 => ⟨⟨by omega, by omega⟩, fun c => no (by omega), fun c2 => ⟨hs, fun c => no (by omega), fun c3 => ⟨fun c => no (by omega), fun c4 => ?_⟩⟩⟩⟩
  obtain ⟨b, rfl⟩ := Int.eq_ofNat_of_zero_le c3
  rw [if_pos ⟨⟨c1, c2⟩, c3, c4⟩, show ((b : Int)).toNat = b by omega] at hq
  exact m_stepsTo hZ.1 (q_Yl_0 hy).2.1 (Or.inr ⟨c1, c2⟩) (by omega) ⟨_, rfl, hq⟩
def q_flr (to : Nat → Int) (f : Int) : Nat → Nat → Nat → Nat
  | 0, _, b => b
  | k + 1, i, b => q_flr to f k (i + 1) (if to (5 * i) = f then b ||| 2 ^ i else b)
theorem q_flr_lt {to : Nat → Int} {f : Int} : ∀ k i b, i + k ≤ 8 → b < 256 → q_flr to f k i b < 256
  | 0, i, b, h, hb => hb
  | k + 1, i, b, h, hb => by
    rw [q_flr]
    refine q_flr_lt k (i + 1) _ (by omega) ?_
    split
    · exact (q_or1 b i hb (by omega)).2
    · exact hb
def q_aFloor (z : q_Z) (f : Int) : Int := if ¬ q_yR (q_zy z) = 0 ∧ (0 ≤ f ∧ f ≤ 3) then ((q_flr (q_yto (q_zy z)) f (q_yR (q_zy z)) 0 0 : Nat) : Int) else -1
theorem c_floor {g : x_G} {k : Nat} {Q : x_Q} {I L : Nat → Nat → Int} {lp tp : Nat} {z : q_Z} (hZ : q_Zk z) (hc : q_ZC I lp z) {f : Int} (hf : x_rg f) (hq : Q [x_i (q_aFloor z f)] (I, L, lp, tp)) : x_X g (k + 2) 171 [x_r 1, x_i f] (I, L, lp, tp) Q := by
  have hR := q_ZR hZ
  unfold q_aFloor at hq
  have no : ¬ (¬ q_yR (q_zy z) = 0 ∧ (0 ≤ f ∧ f ≤ 3)) → Q [x_i (-1)] (I, L, lp, tp) := fun h => by rw [if_neg h] at hq; exact hq
  have loop : ∀ (j i b : Nat), i + j = q_yR (q_zy z) → b < 256 → Q [x_i ((q_flr (q_yto (q_zy z)) f j i b : Nat) : Int)] (I, L, lp, tp) → x_S g (k + 2) 171 Q 14 [x_r 1, x_i f, x_i (b : Int), x_i (i : Int)] [] (I, L, lp, tp) := by
    intro j
    induction j with
    | zero =>
      intro i b hm hb hq
      refine v_floor_L14 ?_
      rw [q_ZC_R hc]
      exact ⟨⟨by omega, by omega⟩, ⟨by omega, by omega⟩, fun _ => hq, fun q => by omega⟩
    | succ j ih =>
      intro i b hm hb hq
      rw [q_flr] at hq
      obtain ⟨t0, -⟩ := q_yto_rg hZ.1 (show i < q_yR (q_zy z) by omega)
      refine v_floor_L14 ?_
      rw [q_ZC_R hc, show ((i : Int) * 5 + 0).toNat = 5 * i by omega, hc.1.1.2.2.1 (5 * i) (by omega)]
      refine ⟨⟨by omega, by omega⟩, ⟨by omega, by omega⟩, fun q => by omega, fun _ => ⟨⟨by omega, by omega⟩, ⟨by omega, by omega⟩, hf, fun c => ?_, fun c => ?_⟩⟩
      · rw [if_neg c] at hq; exact ih (i + 1) b (by omega) hb hq
      · rw [if_pos c] at hq
        obtain ⟨o1, o2⟩ := q_or1 b i hb (by omega)
        rw [o1]; exact ih (i + 1) _ (by omega) o2 hq
  refine v_floor ?_
  rw [q_ZC_R hc]
  refine ⟨⟨by omega, by omega⟩, fun c => ⟨hf, fun c1 => no (by omega), fun c1 => ⟨fun c2 => ?_, fun c2 => no (by omega)⟩⟩, fun c => no (by omega)⟩
  rw [if_pos ⟨by omega, c1, c2⟩] at hq
  exact loop (q_yR (q_zy z)) 0 0 (Nat.zero_add _) (by decide) hq
theorem m_floor {g : x_G} {k : Nat} {Q : x_Q} {I L : Nat → Nat → Int} {lp tp : Nat} {z : q_Z} (hZ : q_Zk z) (hy : q_Yl I (q_zy z)) {f : Int} (hf : x_rg f) (hq : Q [x_i (q_aFloor z f)] (x_u I 179 0 0, L, lp, tp)) : x_X g (k + 2) 280 [x_r 179, x_i f] (I, L, lp, tp) Q := by
  have hR := q_ZR hZ
  have hy0 := q_Yl_0 hy
  unfold q_aFloor at hq
  have no : ¬ (¬ q_yR (q_zy z) = 0 ∧ (0 ≤ f ∧ f ≤ 3)) → Q [x_i (-1)] (x_u I 179 0 0, L, lp, tp) := fun h => by rw [if_neg h] at hq; exact hq
  have loop : ∀ (j i b : Nat), i + j = q_yR (q_zy z) → b < 256 → Q [x_i ((q_flr (q_yto (q_zy z)) f j i b : Nat) : Int)] (x_u I 179 0 0, L, lp, tp) → x_S g (k + 2) 280 Q 18 [x_r 179, x_i f, x_i (b : Int), x_i (i : Int)] [] (x_u I 179 0 0, L, lp, tp) := by
    intro j
    induction j with
    | zero =>
      intro i b hm hb hq
      refine v_floorM_L18 ?_
      rw [hy0.1]
      exact ⟨⟨by omega, by omega⟩, ⟨by omega, by omega⟩, fun _ => hq, fun q => by omega⟩
    | succ j ih =>
      intro i b hm hb hq
      rw [q_flr] at hq
      obtain ⟨t0, -⟩ := q_yto_rg hZ.1 (show i < q_yR (q_zy z) by omega)
      refine v_floorM_L18 ?_
      rw [hy0.1, show (5 * (i : Int) + 0).toNat = 5 * i by omega, hy0.2.1 (5 * i) (by omega)]
      refine ⟨⟨by omega, by omega⟩, ⟨by omega, by omega⟩, fun q => by omega, fun _ => ⟨⟨by omega, by omega⟩, ⟨by omega, by omega⟩, hf, fun c => ?_, fun c => ?_⟩⟩
      · rw [if_neg c] at hq; rw [q_or0 b hb]; exact ih (i + 1) b (by omega) hb hq
      · rw [if_pos c] at hq
        obtain ⟨o1, o2⟩ := q_or1 b i hb (by omega)
        rw [o1]; exact ih (i + 1) _ (by omega) o2 hq
  refine v_floorM ?_
  rw [hy.1]
  refine ⟨⟨by omega, by omega⟩, fun c => no (by omega), fun c => ⟨hf, fun c1 => ?_, fun c1 => no (fun h => c1 h.2)⟩⟩
  rw [if_pos ⟨by omega, c1⟩] at hq
  exact loop (q_yR (q_zy z)) 0 0 (Nat.zero_add _) (by decide) hq
def q_ner (st : Nat → Int) (r : Nat) : Nat → Nat → Int → Int
  | 0, _, b => b
  | k + 1, i, b => q_ner st r k (i + 1) (if i = r then b else if b = -1 ∨ st i < st b.toNat then (i : Int) else b)
theorem q_ner_rg {st : Nat → Int} {r R : Nat} : ∀ k i b, i + k = R → -1 ≤ b ∧ b < (R : Int) → -1 ≤ q_ner st r k i b ∧ q_ner st r k i b < (R : Int)
  | 0, i, b, h, hb => hb
  | k + 1, i, b, h, hb => by
    rw [q_ner]
    refine q_ner_rg k (i + 1) _ (by omega) ?_
    split
    · exact hb
    · split
      · omega
      · exact hb
def q_aNear (z : q_Z) (r : Int) : Int := if 0 ≤ r ∧ r < (q_yR (q_zy z) : Int) then q_ner (q_yst (q_zy z) r) r.toNat (q_yR (q_zy z)) 0 (-1) else -1
theorem c_nearest {g : x_G} {k : Nat} {Q : x_Q} {I L : Nat → Nat → Int} {lp tp : Nat} {z : q_Z} (hZ : q_Zk z) (hc : q_ZC I lp z) {r : Int} (hr : x_rg r) (hq : Q [x_i (q_aNear z r)] (I, L, lp, tp)) : x_X g (k + 2) 172 [x_r 1, x_i r] (I, L, lp, tp) Q := by
  have hR := q_ZR hZ
  unfold q_aNear at hq
  have no : ¬ (0 ≤ r ∧ r < (q_yR (q_zy z) : Int)) → Q [x_i (-1)] (I, L, lp, tp) := fun h => by rw [if_neg h] at hq; exact hq
  refine v_nearest ?_
  rw [q_ZC_R hc]
  refine ⟨hr, fun c => no (by omega), fun c1 => ⟨⟨by omega, by omega⟩, fun c => no (by omega), fun c2 => ?_⟩⟩
  rw [if_pos ⟨c1, c2⟩] at hq
  obtain ⟨a, rfl⟩ := Int.eq_ofNat_of_zero_le c1
  rw [show ((a : Int)).toNat = a by omega] at hq
  have dist : ∀ b : Nat, b < q_yR (q_zy z) → (0 ≤ (a : Int) * 8 + (b : Int) ∧ (a : Int) * 8 + (b : Int) < 72) ∧ I 17 ((a : Int) * 8 + (b : Int)).toNat = q_yst (q_zy z) (a : Int) b ∧ (0 ≤ q_yst (q_zy z) (a : Int) b ∧ q_yst (q_zy z) (a : Int) b ≤ 27) := fun b hb => by
    have d := q_fc_dist hR hc.1.1 (f := (a : Int)) (Or.inr ⟨c1, c2⟩) hb
    rw [q_fc_n] at d
    exact ⟨d.1, d.2, (q_ymi_rg hZ.1 (f := (a : Int)) (Or.inr ⟨c1, c2⟩) hb).1⟩
  have loop : ∀ (j i : Nat) (b : Int), i + j = q_yR (q_zy z) → (b = -1 ∨ (0 ≤ b ∧ b < (q_yR (q_zy z) : Int))) → Q [x_i (q_ner (q_yst (q_zy z) (a : Int)) a j i b)] (I, L, lp, tp) → x_S g (k + 2) 172 Q 10 [x_r 1, x_i (a : Int), x_i b, x_i (i : Int), x_n] [] (I, L, lp, tp) := by
    intro j
    induction j with
    | zero =>
      intro i b hm hb hq
      refine v_nearest_L10 ?_
      rw [q_ZC_R hc]
      exact ⟨⟨by omega, by omega⟩, ⟨by omega, by omega⟩, fun _ => hq, fun q => by omega⟩
    | succ j ih =>
      intro i b hm hb hq
      rw [q_ner] at hq
      obtain ⟨d1, d2, d3⟩ := dist i (by omega)
      have keep : i = a ∨ ¬ (b = -1 ∨ q_yst (q_zy z) (a : Int) i < q_yst (q_zy z) (a : Int) b.toNat) → x_S g (k + 2) 172 Q 10 [x_r 1, x_i (a : Int), x_i b, x_i ((i : Int) + 1), x_n] [] (I, L, lp, tp) := fun h => by
        refine ih (i + 1) b (by omega) hb ?_
        by_cases e : i = a
        · rw [if_pos e] at hq; exact hq
        · rw [if_neg e, if_neg (h.resolve_left e)] at hq; exact hq
      have take : ¬ i = a → (b = -1 ∨ q_yst (q_zy z) (a : Int) i < q_yst (q_zy z) (a : Int) b.toNat) → x_S g (k + 2) 172 Q 10 [x_r 1, x_i (a : Int), x_i (i : Int), x_i ((i : Int) + 1), x_n] [] (I, L, lp, tp) := fun h1 h2 => by
        rw [if_neg h1, if_pos h2] at hq
        exact ih (i + 1) (i : Int) (by omega) (Or.inr ⟨by omega, by omega⟩) hq
      refine v_nearest_L10 ?_
      rw [q_ZC_R hc]
      refine ⟨⟨by omega, by omega⟩, ⟨by omega, by omega⟩, fun q => by omega, fun _ => ⟨⟨by omega, by omega⟩, fun cb => ⟨hr, fun c => keep (Or.inl (by omega)), fun c => take (by omega) (Or.inl cb)⟩, fun cb => ?_⟩⟩
      obtain ⟨n, rfl⟩ := Int.eq_ofNat_of_zero_le (show 0 ≤ b by omega)
      obtain ⟨f1, f2, f3⟩ := dist n (by omega)
      rw [d2, f2]
      rw [show ((n : Int)).toNat = n by omega] at keep take
      exact ⟨d1, f1, ⟨by omega, by omega⟩, ⟨by omega, by omega⟩, fun c3 => ⟨hr, fun c => keep (Or.inl (by omega)), fun c => keep (Or.inr (by omega))⟩, fun c3 => ⟨hr, fun c => keep (Or.inl (by omega)), fun c => take (by omega) (Or.inr c3)⟩⟩
  exact loop (q_yR (q_zy z)) 0 (-1) (Nat.zero_add _) (Or.inl rfl) hq
theorem m_nearest {g : x_G} {k : Nat} {Q : x_Q} {I L : Nat → Nat → Int} {lp tp : Nat} {z : q_Z} (hZ : q_Zk z) (hy : q_Yl I (q_zy z)) {r : Int} (hr : x_rg r) (hq : Q [x_i (q_aNear z r)] (x_u I 179 0 0, L, lp, tp)) : x_X g (k + 4) 281 [x_r 179, x_i r] (I, L, lp, tp) Q := by
  have hR := q_ZR hZ
  have hy0 := q_Yl_0 hy
  unfold q_aNear at hq
  have no : ¬ (0 ≤ r ∧ r < (q_yR (q_zy z) : Int)) → Q [x_i (-1)] (x_u I 179 0 0, L, lp, tp) := fun h => by rw [if_neg h] at hq; exact hq
  refine v_nearestM (k := k + 2) ?_
  rw [hy.1]
  refine ⟨hr, fun c => no (by omega), fun c1 => ⟨⟨by omega, by omega⟩, fun c => no (by omega), fun c2 => ?_⟩⟩
  rw [if_pos ⟨c1, c2⟩] at hq
  obtain ⟨a, rfl⟩ := Int.eq_ofNat_of_zero_le c1
  rw [show ((a : Int)).toNat = a by omega] at hq
  have loop : ∀ (j i : Nat) (b : Int), i + j = q_yR (q_zy z) → (b = -1 ∨ (0 ≤ b ∧ b < (q_yR (q_zy z) : Int))) → Q [x_i (q_ner (q_yst (q_zy z) (a : Int)) a j i b)] (x_u I 179 0 0, L, lp, tp) → x_S g (k + 2 + 2) 281 Q 13 [x_r 179, x_i (a : Int), x_i b, x_i (i : Int)] [] (x_u I 179 0 0, L, lp, tp) := by
    intro j
    induction j with
    | zero =>
      intro i b hm hb hq
      refine v_nearestM_L13 ?_
      rw [hy0.1]
      exact ⟨⟨by omega, by omega⟩, ⟨by omega, by omega⟩, fun _ => hq, fun q => by omega⟩
    | succ j ih =>
      intro i b hm hb hq
      rw [q_ner] at hq
      refine v_nearestM_L13 ?_
      rw [hy0.1]
      refine ⟨⟨by omega, by omega⟩, ⟨by omega, by omega⟩, fun q => by omega, fun _ => ⟨hr, fun c => ?_, fun c => ⟨⟨by omega, by omega⟩, fun cb => ?_, fun cb => ?_⟩⟩⟩
      · rw [if_pos (by omega)] at hq; exact ih (i + 1) b (by omega) hb hq
      · rw [if_neg (by omega), if_pos (Or.inl cb)] at hq; exact ih (i + 1) (i : Int) (by omega) (Or.inr ⟨by omega, by omega⟩) hq
      · obtain ⟨n, rfl⟩ := Int.eq_ofNat_of_zero_le (show 0 ≤ b by omega)
        have f1 := (q_ymi_rg hZ.1 (f := (a : Int)) (Or.inr ⟨c1, c2⟩) (show i < q_yR (q_zy z) by omega)).1
        have f2 := (q_ymi_rg hZ.1 (f := (a : Int)) (Or.inr ⟨c1, c2⟩) (show n < q_yR (q_zy z) by omega)).1
        rw [if_neg (show ¬ i = a by omega), show ((n : Int)).toNat = n by omega] at hq
        refine m_stepsTo hZ.1 hy0.2.1 (Or.inr ⟨c1, c2⟩) (by omega) ⟨_, rfl, m_stepsTo hZ.1 hy0.2.1 (Or.inr ⟨c1, c2⟩) (by omega) ⟨_, rfl, ⟨by omega, by omega⟩, ⟨by omega, by omega⟩, fun c3 => ?_, fun c3 => ?_⟩⟩
        · rw [if_neg (by omega)] at hq; exact ih (i + 1) (n : Int) (by omega) hb hq
        · rw [if_pos (Or.inr c3)] at hq; exact ih (i + 1) (i : Int) (by omega) (Or.inr ⟨by omega, by omega⟩) hq
  exact loop (q_yR (q_zy z)) 0 (-1) (Nat.zero_add _) (Or.inl rfl) hq
