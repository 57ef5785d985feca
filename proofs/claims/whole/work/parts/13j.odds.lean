/-! odds -/
def q_od (y : q_Y) (goal : Nat) (ch : Int) : List Nat → Int → Int → Int → Int → Int → Int
  | [], _, _, _, _, _ => 0
  | r :: l, f, h, c, n, p =>
    if r = goal then (if q_yto y (5 * r + 3) ≤ q_yht y h f r c n (q_ypa y) then Int.tdiv (p * ch) 100 else 0) + (if q_yto y (5 * r + 3) ≤ q_yht y h f r c n 0 then p - Int.tdiv (p * ch) 100 else 0)
    else q_od y goal ch l (r : Int) (q_yht y h f r c n (q_ypa y)) (c - q_po y c r) (n + 1) (Int.tdiv (p * ch) 100) + q_od y goal ch l (r : Int) (q_yht y h f r c n 0) (c - q_po y c r) (n + 1) (p - Int.tdiv (p * ch) 100)
theorem q_od_0 (y : q_Y) (goal : Nat) (ch : Int) : ∀ (l : List Nat) (f h c n : Int), q_od y goal ch l f h c n 0 = 0
  | [], _, _, _, _ => rfl
  | r :: l, f, h, c, n => by
    rw [q_od, Int.zero_mul, show Int.tdiv 0 100 = 0 from rfl, show (0 : Int) - 0 = 0 from rfl, q_od_0 y goal ch l, q_od_0 y goal ch l]
    simp
theorem q_od_no (y : q_Y) (goal : Nat) (ch : Int) : ∀ (l : List Nat) (f h c n p : Int), goal ∉ l → q_od y goal ch l f h c n p = 0
  | [], _, _, _, _, _, _ => rfl
  | r :: l, f, h, c, n, p, hg => by
    rw [q_od, if_neg (fun e => hg (by rw [e]; exact List.mem_cons_self)), q_od_no y goal ch l _ _ _ _ _ (fun h => hg (List.mem_cons_of_mem _ h)), q_od_no y goal ch l _ _ _ _ _ (fun h => hg (List.mem_cons_of_mem _ h))]
    rfl
theorem q_wb_rg {p ch : Int} (hp : 0 ≤ p ∧ p ≤ 1000000) (hc : 0 ≤ ch ∧ ch ≤ 100) : x_rg (p * ch) ∧ 0 ≤ Int.tdiv (p * ch) 100 ∧ Int.tdiv (p * ch) 100 ≤ p := by
  have a1 := Int.mul_nonneg hp.1 hc.1
  have a2 : p * ch ≤ 1000000 * 100 := Int.mul_le_mul hp.2 hc.2 hc.1 (by decide)
  have a3 : p * ch ≤ p * 100 := Int.mul_le_mul_of_nonneg_left hc.2 hp.1
  rw [Int.tdiv_eq_ediv_of_nonneg a1]
  exact ⟨⟨by omega, by omega⟩, by omega, by omega⟩
theorem q_od_rg (y : q_Y) (goal : Nat) {ch : Int} (hc : 0 ≤ ch ∧ ch ≤ 100) : ∀ (l : List Nat) (f h c n p : Int), 0 ≤ p ∧ p ≤ 1000000 → 0 ≤ q_od y goal ch l f h c n p ∧ q_od y goal ch l f h c n p ≤ p
  | [], _, _, _, _, p, hp => ⟨Int.le_refl _, hp.1⟩
  | r :: l, f, h, c, n, p, hp => by
    obtain ⟨-, w1, w2⟩ := q_wb_rg hp hc
    rw [q_od]
    have i1 := q_od_rg y goal hc l (r : Int) (q_yht y h f r c n (q_ypa y)) (c - q_po y c r) (n + 1) (Int.tdiv (p * ch) 100) (by omega)
    have i2 := q_od_rg y goal hc l (r : Int) (q_yht y h f r c n 0) (c - q_po y c r) (n + 1) (p - Int.tdiv (p * ch) 100) (by omega)
    by_cases e : r = goal
    · rw [if_pos e]
      repeat' split
      all_goals constructor <;> omega
    · rw [if_neg e]; omega
/-- what the class's odds read -/
def q_Po (I : Nat → Nat → Int) (lp : Nat) (y : q_Y) (vs : List Nat) (goal : Nat) (ch : Int) : Prop := q_Yc I lp y ∧ I 156 5 = (vs.length : Int) ∧ (∀ x, x < vs.length → I 160 x = ((vs.getD x 0 : Nat) : Int)) ∧ I 156 6 = (goal : Int) ∧ I 156 7 = ch
theorem q_Po_fW {I I' : Nat → Nat → Int} {lp : Nat} {y : q_Y} (hY : q_Yk y) {vs : List Nat} {goal : Nat} {ch : Int} (h : q_Po I lp y vs goal ch) (f : x_fr q_fW I I') : q_Po I' lp y vs goal ch := by
  obtain ⟨h1, h2, h3, h4, h5⟩ := h
  exact ⟨q_Yc_fK hY h1 (x_fr_mono f rfl), (f _ _ rfl).trans h2, fun x hx => (f 160 x rfl).trans (h3 x hx), (f _ _ rfl).trans h4, (f _ _ rfl).trans h5⟩
def q_prev (vs : List Nat) (i : Nat) : Int := if i = 0 then -1 else ((vs.getD (i - 1) 0 : Nat) : Int)
theorem q_drop_cons {vs : List Nat} {i : Nat} (h : i < vs.length) : vs.drop i = vs.getD i 0 :: vs.drop (i + 1) := by
  rw [List.drop_eq_getElem_cons h]
  simp [List.getD, h]
theorem q_getD_mem {vs : List Nat} {i : Nat} (h : i < vs.length) : vs.getD i 0 ∈ vs := by
  simp [List.getD, h]
theorem s_hotParts {g : x_G} {L : Nat → Nat → Int} {lp tp : Nat} {y : q_Y} (hY : q_Yk y) {vs : List Nat} (hvs : ∀ r ∈ vs, r < q_yR y) (hv8 : vs.length ≤ 8) {goal : Nat} (hg : goal < 8) {ch : Int} (hch : 0 ≤ ch ∧ ch ≤ 100) : ∀ (m i k : Nat) (h c p : Int) (I : Nat → Nat → Int) (Q : x_Q), i + m = vs.length → 4 * m + 7 ≤ k → q_Po I lp y vs goal ch → 0 ≤ h ∧ h ≤ 99 → 0 ≤ c ∧ c ≤ 60 → 0 ≤ p ∧ p ≤ 1000000 → (∀ I', x_fr q_fW I I' → Q [x_i (q_od y goal ch (vs.drop i) (q_prev vs i) h c (i : Int) p)] (I', L, lp, tp)) → x_X g k 109 [x_r 156, x_i (i : Int), x_i h, x_i c, x_i p] (I, L, lp, tp) Q
  | 0, i, k, h, c, p, I, Q, hm, hk, hP, hh, hc, hp, hq => by
    obtain ⟨k, rfl⟩ : ∃ k', k = k' + 1 := ⟨k - 1, by omega⟩
    have := hq I (x_fr_refl _ _)
    rw [List.drop_eq_nil_of_le (by omega), q_od] at this
    refine v_hotParts ?_
    rw [hP.2.1]
    exact ⟨⟨by omega, by omega⟩, fun _ => this, fun _ => ⟨⟨by omega, by omega⟩, fun _ => this, fun _ => ⟨⟨by omega, by omega⟩, fun q => by omega, fun _ => this⟩⟩⟩
  | m + 1, i, k, h, c, p, I, Q, hm, hk, hP, hh, hc, hp, hq => by
    obtain ⟨k, rfl⟩ : ∃ k', k = k' + 1 := ⟨k - 1, by omega⟩
    have hR : q_yR y ≤ 8 := by rcases hY.1.1 with q | q <;> omega
    have hi : i < vs.length := by omega
    obtain ⟨w0, w1, w2⟩ := q_wb_rg hp hch
    rw [q_drop_cons hi] at hq
    generalize hr : vs.getD i 0 = r at *
    have hrR : r < q_yR y := by rw [← hr]; exact hvs _ (q_getD_mem hi)
    obtain ⟨p1, p2, p3, p4, p5⟩ := hP
    have hP : q_Po I lp y vs goal ch := ⟨p1, p2, p3, p4, p5⟩
    have e160 : I 160 i = (r : Int) := by rw [p3 i hi, hr]
    obtain ⟨t0, t3, t4, wk, r8⟩ := q_yto_rg hY hrR
    have hpo : 0 ≤ q_po y c r ∧ q_po y c r ≤ c := by unfold q_po; omega
    have hpa := hY.2.1 (by omega)
    have hpf : q_prev vs i = -1 ∨ (0 ≤ q_prev vs i ∧ q_prev vs i < (q_yR y : Int)) := by
      unfold q_prev
      by_cases e : i = 0
      · rw [if_pos e]; exact Or.inl rfl
      · rw [if_neg e]
        have := hvs _ (q_getD_mem (vs := vs) (i := i - 1) (by omega))
        exact Or.inr ⟨by omega, by omega⟩
    have hht : ∀ wb, 0 ≤ q_yht y h (q_prev vs i) r c (i : Int) wb ∧ q_yht y h (q_prev vs i) r c (i : Int) wb ≤ h := fun wb => q_ht_rg hh
    -- behind one of the two ways
    have bh : ∀ (hb pb : Int) (J : Nat → Nat → Int) (Q' : x_Q), q_Po J lp y vs goal ch → 0 ≤ hb ∧ hb ≤ 99 → 0 ≤ pb ∧ pb ≤ 1000000 → (∀ J', x_fr q_fW J J' → Q' [x_i (if r = goal then (if q_yto y (5 * r + 3) ≤ hb then pb else 0) else q_od y goal ch (vs.drop (i + 1)) (r : Int) hb (c - q_po y c r) ((i : Int) + 1) pb)] (J', L, lp, tp)) → x_X g k 110 [x_r 156, x_i (i : Int), x_i hb, x_i c, x_i pb] (J, L, lp, tp) Q' := by
      intro hb pb J Q' hPJ hhb hpb hq'
      obtain ⟨k, rfl⟩ : ∃ k', k = k' + 3 := ⟨k - 3, by omega⟩
      obtain ⟨j1, j2, j3, j4, j5⟩ := hPJ
      have e160 : J 160 i = (r : Int) := by rw [j3 i hi, hr]
      have e19 : J 19 r = q_ywk y r := j1.2.2.2 r hrR
      have e16 : J 16 ((r : Int) * 5 + 3).toNat = q_yto y (5 * r + 3) := by rw [show ((r : Int) * 5 + 3).toNat = 5 * r + 3 by omega]; exact j1.1.2.2.1 _ (by omega)
      refine v_hotBehind ?_
      rw [show ((i : Int)).toNat = i by omega, e160, j4, show ((r : Int)).toNat = r by omega, e19, e16]
      refine ⟨⟨by omega, by omega⟩, ⟨by omega, by omega⟩, ?_, fun q => ⟨⟨by omega, by omega⟩, ⟨by omega, by omega⟩, ⟨by omega, by omega⟩, ?_⟩, fun q => ⟨⟨by omega, by omega⟩, ⟨by omega, by omega⟩, ⟨by omega, by omega⟩, fun q2 => ?_, fun q2 => ?_⟩⟩
      · exact ⟨by omega, by omega⟩
      · rw [if_neg (by omega)] at hq'
        refine s_hotParts hY hvs hv8 hg hch m (i + 1) k hb (c - min c (q_ywk y r)) pb J _ (by omega) (by omega) ⟨j1, j2, j3, j4, j5⟩ hhb ⟨by unfold q_po at hpo; omega, by unfold q_po at hpo; omega⟩ hpb (fun J' f' => ⟨_, rfl, ?_⟩)
        have e : q_prev vs (i + 1) = (r : Int) := by unfold q_prev; rw [if_neg (by omega), show i + 1 - 1 = i by omega, hr]
        rw [e]
        exact hq' J' f'
      · have := hq' J (x_fr_refl _ _)
        rw [if_pos (by omega), if_neg (by omega)] at this; exact this
      · have := hq' J (x_fr_refl _ _)
        rw [if_pos (by omega), if_pos q2] at this; exact this
    have main : ∀ fc : Int, fc = q_fc (q_prev vs i) → x_X g k 113 [x_r 154, x_i fc, x_i (r : Int), x_i h, x_i c, x_i (i : Int), x_i (I 18 3)] (I, L, lp, tp) (fun rv w6 => ∃ z5, rv = [x_i z5] ∧ x_X g k 113 [x_r 154, x_i fc, x_i (w6.1 160 i), x_i h, x_i c, x_i (i : Int), x_i 0] w6 (fun rv w9 => ∃ z8, rv = [x_i z8] ∧ x_X g k 110 [x_r 156, x_i (i : Int), x_i z5, x_i c, x_i (Int.tdiv (p * ch) 100)] w9 (fun rv w12 => ∃ z11, rv = [x_i z11] ∧ x_X g k 110 [x_r 156, x_i (i : Int), x_i z8, x_i c, x_i (p - (Int.tdiv (p * ch) 100))] w12 (fun rv w15 => ∃ z14, rv = [x_i z14] ∧ Q [x_i (z11 + z14)] w15)))) := by
      intro fc hfc
      subst hfc
      have e183 : I 18 3 = q_ypa y := p1.2.2.1
      rw [e183]
      refine x_le (show 6 ≤ k by omega) (s_heat (k := 0) hY p1 hpf hrR hh hc ⟨by omega, by omega⟩ ⟨by omega, by omega⟩ (fun I6 f6 => ⟨_, rfl, ?_⟩))
      have P6 := q_Po_fW hY hP f6
      dsimp only
      rw [f6 160 i rfl, e160]
      refine x_le (show 6 ≤ k by omega) (s_heat (k := 0) hY P6.1 hpf hrR hh hc ⟨by omega, by omega⟩ ⟨by decide, by decide⟩ (fun I9 f9 => ⟨_, rfl, ?_⟩))
      have P9 := q_Po_fW hY P6 f9
      have h1 := hht (q_ypa y)
      have h2 := hht 0
      refine bh _ _ I9 _ P9 ⟨by omega, by omega⟩ ⟨by omega, by omega⟩ (fun I12 f12 => ⟨_, rfl, ?_⟩)
      refine bh _ _ I12 _ (q_Po_fW hY P9 f12) ⟨by omega, by omega⟩ ⟨by omega, by omega⟩ (fun I15 f15 => ⟨_, rfl, ?_⟩)
      have := hq I15 (x_fr_trans (x_fr_trans (x_fr_trans f6 f9) f12) f15)
      rw [q_od] at this
      by_cases e : r = goal
      · rw [if_pos e] at this; rw [if_pos e, if_pos e]; exact this
      · rw [if_neg e] at this; rw [if_neg e, if_neg e]; exact this
    refine v_hotParts ?_
    rw [p2, p5, show ((i : Int)).toNat = i by omega, e160]
    refine ⟨⟨by omega, by omega⟩, fun q => ?_, fun q => ⟨⟨by omega, by omega⟩, fun q2 => by omega, fun q2 => ⟨⟨by omega, by omega⟩, fun q3 => ⟨fun q4 => ⟨⟨by omega, by omega⟩, w0, ⟨by omega, by omega⟩, ?_⟩, fun q4 => ⟨w0, ⟨by omega, by omega⟩, ?_⟩⟩, fun q3 => by omega⟩⟩⟩
    · have := hq I (x_fr_refl _ _)
      rw [q, q_od_0] at this; exact this
    · refine main _ ?_
      have hi0 : ¬ i = 0 := by omega
      unfold q_fc q_prev
      rw [if_neg hi0, if_neg (by omega), show ((i : Int) - 1).toNat = i - 1 by omega]
      exact p3 (i - 1) (by omega)
    · refine main _ ?_
      have hi0 : i = 0 := by omega
      unfold q_fc q_prev
      rw [if_pos hi0, if_pos rfl]
def q_aOdds (z : q_Z) (r ch : Int) : Int := if q_in8 z r ∧ 0 ≤ ch ∧ ch ≤ 100 then q_od (q_zy z) r.toNat ch (q_zv z) (-1) (q_zh z) (q_zc z) 0 1000000 else -1
theorem q_go_came (y : q_Y) : ∀ (l : List Nat) (s : q_S) (r : Nat), (q_sb (q_go y s l)).testBit r = true ↔ (q_sb s).testBit r = true ∨ r ∈ l
  | [], s, r => by simp [q_go]
  | x :: l, s, r => by
    rw [q_go, q_go_came y l (q_stp y s x) r]
    show (q_sb s ||| 2 ^ x).testBit r = true ∨ r ∈ l ↔ _
    rw [q_or1_bit, Bool.or_eq_true, decide_eq_true_eq, List.mem_cons]
    constructor
    · rintro ((h | h) | h)
      · exact Or.inl h
      · exact Or.inr (Or.inl h.symm)
      · exact Or.inr (Or.inr h)
    · rintro (h | h | h)
      · exact Or.inl (Or.inl h)
      · exact Or.inl (Or.inr h.symm)
      · exact Or.inr h
theorem q_zs_came (z : q_Z) (r : Nat) : (q_sb (q_zs z)).testBit r = true ↔ r ∈ q_zv z := by
  unfold q_zs
  rw [q_go_came]
  constructor
  · rintro (h | h)
    · have : (0 : Nat).testBit r = true := h
      simp at this
    · exact h
  · exact Or.inr
theorem c_odds {g : x_G} {k : Nat} {Q : x_Q} {I L : Nat → Nat → Int} {lp tp : Nat} {z : q_Z} (hZ : q_Zk z) (hc : q_ZC I lp z) {r w : Int} (hr : x_rg r) (hw : x_rg w) (hq : ∀ I', x_fr q_fK I I' → Q [x_i (q_aOdds z r w)] (I', L, lp, tp)) : x_X g (k + 60) 157 [x_r 1, x_i r, x_i w] (I, L, lp, tp) Q := by
  have out : ∀ I' v, x_fr q_fK I I' → v = q_aOdds z r w → Q [x_i v] (I', L, lp, tp) := fun I' v f e => by rw [e]; exact hq I' f
  have hR := q_ZR hZ
  unfold q_aOdds at out
  have no : ¬ (q_in8 z r ∧ 0 ≤ w ∧ w ≤ 100) → Q [x_i (-1)] (I, L, lp, tp) := fun h => out _ _ (x_fr_refl _ _) (by rw [if_neg h])
  refine v_odds (k := k + 58) ?_
  rw [q_ZC_R hc]
  refine ⟨hr, fun q => no (by omega), fun q => ⟨⟨by omega, by omega⟩, fun q2 => no (by omega), fun q2 => ⟨hw, fun q3 => no (by omega), fun q3 => ⟨fun q4 => ?_, fun q4 => no (by omega)⟩⟩⟩⟩
  obtain ⟨n, rfl⟩ := Int.eq_ofNat_of_zero_le q
  rw [if_pos ⟨⟨q, q2⟩, q3, q4⟩] at out
  refine x_le (show k + 12 ≤ k + 58 by omega) (s_goRound hZ hc (fun I' f' c' W' => ⟨rfl, ?_⟩))
  obtain ⟨a1, a2, a3⟩ := q_Wc_at hZ W' n (by omega)
  refine v_partsHot (k := k + 56) ?_
  rw [a2, show ((n : Int)).toNat = n by omega] at *
  refine ⟨a1, ⟨by omega, by omega⟩, fun hb => ?_, fun hb => ⟨_, rfl, out _ _ f' ?_⟩⟩
  · have hlen := q_vis_len (q_yR (q_zy z)) (q_zd z) (q_zr z) 8 0
    rw [c'.2.2.2.1, c'.2.2.2.2]
    have fr2 : x_fr q_fK I' (x_u (x_u I' 156 6 (n : Int)) 156 7 w) := x_fr_u (x_fr_u (x_fr_refl _ _) rfl) rfl
    refine s_hotParts hZ.1 (vs := q_zv z) (goal := n) (fun r hr => (q_vis_lt _ _ _ _ _ r hr).1) hlen (by omega) ⟨q3, q4⟩ (q_zv z).length 0 (k + 56) (q_zh z) (q_zc z) 1000000 _ _ (Nat.zero_add _) (by unfold q_zv; omega) ⟨q_Yc_fK hZ.1 c'.1 fr2, ?_, fun x hx => W'.2.2.2.2.2.2.2.2 x hx, rfl, rfl⟩ hZ.2.2.1 hZ.2.2.2.1 (by decide) (fun I2 f2 => ⟨_, rfl, _, rfl, out _ _ (x_fr_trans (x_fr_trans f' fr2) (x_fr_mono f2 rfl)) rfl⟩)
    exact W'.1.trans W'.2.2.2.2.2.2.2.1
  · exact (q_od_no _ _ _ _ _ _ _ _ _ (fun h => hb ((q_zs_came z n).mpr h))).symm
