/-! The reference's rounds -/
/-- the bits of rooms to which it does not come -/
def q_lost (y : q_Y) (s : q_S) (z : Int) : Prop := ∃ l : Nat, z = (l : Int) ∧ l < 256 ∧ ∀ r, r < 8 → l.testBit r = (decide (r < q_yR y) && !(q_sb s).testBit r)
def q_Wm (I : Nat → Nat → Int) (y : q_Y) (s : q_S) : Prop := q_W7 I s ∧ q_lost y s (I 179 42) ∧ (∀ r, r < 8 → (q_sb s).testBit r = true → I 191 r = q_sM s r ∧ I 192 r = q_sH s r) ∧ ∀ r, r < q_yR y → I 193 r = q_sP s r
theorem q_lost_stp {y : q_Y} {s : q_S} {z : Int} (h : q_lost y s z) {r : Nat} (hr : r < q_yR y) (hr8 : r < 8) : q_lost y (q_stp y s r) (x_and z (x_xor (x_shl 1 (r : Int)) (-1))) := by
  obtain ⟨l, rfl, hl, hb⟩ := h
  refine ⟨q_wo l r, q_wo_eq l r hl hr8, q_wo_lt l r hl, fun x hx => ?_⟩
  rw [q_wo_bit l r x hl hr8, hb x hx]
  show _ = (decide (x < q_yR y) && !(q_sb s ||| 2 ^ r).testBit x)
  rw [q_or1_bit]
  by_cases e : x = r
  · subst e; simp
  · simp [e, Ne.symm e]
theorem q_Wm_stp {I I' : Nat → Nat → Int} {y : q_Y} {s : q_S} (h : q_Wm I y s) {r : Nat} (hr : r < q_yR y) (hr8 : r < 8) (h7 : q_W7 I' (q_stp y s r)) (h191 : ∀ x, I' 191 x = q_up (I 191) r (q_sm s + q_ymi y (q_sf s) r) x) (h192 : ∀ x, I' 192 x = q_up (I 192) r (q_sh (q_stp y s r)) x) (h193 : ∀ x, I' 193 x = q_up (I 193) r (q_po y (q_sc s) r) x) (h42 : I' 179 42 = x_and (I 179 42) (x_xor (x_shl 1 (r : Int)) (-1))) : q_Wm I' y (q_stp y s r) := by
  obtain ⟨w1, w2, w3, w4⟩ := h
  refine ⟨h7, ?_, fun x hx hb => ?_, fun x hx => ?_⟩
  · rw [h42]; exact q_lost_stp w2 hr hr8
  · rw [h191, h192]
    show q_up (I 191) r _ x = q_up (q_sM s) r _ x ∧ q_up (I 192) r _ x = q_up (q_sH s) r _ x
    unfold q_up
    by_cases e : x = r
    · rw [if_pos e, if_pos e, if_pos e, if_pos e]; exact ⟨rfl, rfl⟩
    · rw [if_neg e, if_neg e, if_neg e, if_neg e]
      refine w3 x hx ?_
      have hb' : (q_sb s ||| 2 ^ r).testBit x = true := hb
      rw [q_or1_bit] at hb'
      simpa [Ne.symm e] using hb'
  · rw [h193]
    show q_up (I 193) r _ x = q_up (q_sP s) r _ x
    unfold q_up
    by_cases e : x = r
    · rw [if_pos e, if_pos e]
    · rw [if_neg e, if_neg e]; exact w4 x hx
/-- round v of the reference: rd, -1 behind its end -/
def q_Rm (I : Nat → Nat → Int) (v : Nat) (rd : Nat → Int) : Prop := ∃ n : Nat, I 189 v = (n : Int) ∧ n ≤ 8 ∧ (∀ x, x < n → I 188 (8 * v + x) = rd x ∧ 0 ≤ rd x ∧ rd x < 8) ∧ ∀ x, n ≤ x → x < 8 → rd x = -1
theorem q_vis_cut (R sh : Nat) (rd : Nat → Int) (b : Nat) : ∀ a i, (∀ x, i + a ≤ x → x < i + a + b → rd x = -1) → q_vis R sh rd (a + b) i = q_vis R sh rd a i
  | 0, i, h => by rw [Nat.zero_add]; exact q_vis_none R sh rd b i (fun x h1 h2 => h x (by omega) (by omega))
  | a + 1, i, h => by
    rw [show a + 1 + b = (a + b) + 1 by omega, q_vis, q_vis, q_vis_cut R sh rd b a (i + 1) (fun x h1 h2 => h x (by omega) (by omega))]
def q_shm (I : Nat → Nat → Int) (R sh : Nat) (op : Int) : Prop := (op = 1 ∧ sh = 0) ∨ (op = 0 ∧ ∀ r, r < R → I 190 (16 + r) = if sh.testBit r = true then 1 else 0)
theorem m_round_L {g : x_G} {k : Nat} {Q : x_Q} {lp : Nat} {y : q_Y} {FA : Nat → q_AV} {nl : Nat} (hk : 95 ≤ k) (hY : q_Yk y) {v n sh : Nat} {rd : Nat → Int} {op : Int} (hv : v ≤ 4) (hn : n ≤ 8) (I0 L0 : Nat → Nat → Int) (e189 : I0 189 v = (n : Int)) (e188 : ∀ x, x < n → I0 188 (8 * v + x) = rd x ∧ 0 ≤ rd x ∧ rd x < 8) (hsh : q_shm I0 (q_yR y) sh op) : ∀ (m i : Nat) (s : q_S) (I L : Nat → Nat → Int) (tp : Nat), i + m = n → x_fr q_fD I0 I → q_Lo L0 L → q_Ym I L y FA nl → q_Si y s → q_sn s ≤ (i : Int) → q_Wm I y s → (∀ I' L' tp', x_fr q_fD I0 I' → q_Lo L0 L' → q_Ym I' L' y FA nl → q_Wm I' y (q_go y s (q_vis (q_yR y) sh rd m i)) → Q [] (I', L', lp, tp')) → x_S g (k + 1) 231 Q 21 [x_r 179, x_i (v : Int), x_i op, x_i (i : Int), x_n] [] (I, L, lp, tp)
  | 0, i, s, I, L, tp, hm, f, hL, hYm, hs, hsn, hW, hq => by
    refine v_goRoundM_L21 ?_
    rw [show ((v : Int)).toNat = v by omega, f 189 v rfl, e189]
    exact ⟨⟨by omega, by omega⟩, ⟨by omega, by omega⟩, ⟨by omega, by omega⟩, fun _ => hq I L tp f hL hYm hW, fun q => by omega⟩
  | m + 1, i, s, I, L, tp, hm, f, hL, hYm, hs, hsn, hW, hq => by
    obtain ⟨a1, a2, a3⟩ := e188 i (by omega)
    have hR : q_yR y ≤ 8 := by rcases hY.1.1 with q | q <;> omega
    refine v_goRoundM_L21 ?_
    rw [show ((v : Int)).toNat = v by omega, f 189 v rfl, e189, hYm.1, show (8 * (v : Int) + (i : Int)).toNat = 8 * v + i by omega, f 188 _ rfl, a1]
    obtain ⟨r, hr⟩ := Int.eq_ofNat_of_zero_le a2
    have nx : ∀ (I' L' : Nat → Nat → Int) (tp' : Nat) (s' : q_S), x_fr q_fD I0 I' → q_Lo L0 L' → q_Ym I' L' y FA nl → q_Si y s' → q_sn s' ≤ ((i + 1 : Nat) : Int) → q_Wm I' y s' → q_go y s (q_vis (q_yR y) sh rd (m + 1) i) = q_go y s' (q_vis (q_yR y) sh rd m (i + 1)) → x_S g (k + 1) 231 Q 21 [x_r 179, x_i (v : Int), x_i op, x_i ((i : Int) + 1), x_n] [] (I', L', lp, tp') := by
      intro I' L' tp' s' f' hL' hYm' hs' hsn' hW' he
      refine m_round_L hk hY hv hn I0 L0 e189 e188 hsh m (i + 1) s' I' L' tp' (by omega) f' hL' hYm' hs' hsn' hW' (fun I2 L2 tp2 f2 hL2 hY2 hW2 => hq I2 L2 tp2 f2 hL2 hY2 ?_)
      rw [he]; exact hW2
    have skip : ¬ ((0 ≤ rd i ∧ rd i < (q_yR y : Int)) ∧ sh.testBit (rd i).toNat = false) → x_S g (k + 1) 231 Q 21 [x_r 179, x_i (v : Int), x_i op, x_i ((i : Int) + 1), x_n] [] (I, L, lp, tp) := by
      intro hc
      refine nx I L tp s f hL hYm hs (by omega) hW ?_
      rw [q_vis, if_neg hc]
    have come : (0 ≤ rd i ∧ rd i < (q_yR y : Int)) → sh.testBit (rd i).toNat = false → x_X g k 230 [x_r 179, x_i (rd i)] (I, L, lp, tp) (fun rv w5 => rv = [] ∧ x_S g (k + 1) 231 Q 21 [x_r 179, x_i (v : Int), x_i op, x_i ((i : Int) + 1), x_n] [] w5) := by
      intro h1 h2
      have hrR : r < q_yR y := by omega
      rw [hr]
      refine m_comesTo hk hY hYm hs (by omega) hW.1 hrR (fun I' L' tp' f' hL' hY' h7 h191 h192 h193 h42 => ⟨rfl, ?_⟩)
      refine nx I' L' tp' (q_stp y s r) (x_fr_trans f f') (fun a k ha => (hL' a k ha).trans (hL a k ha)) hY' (q_Si_stp hY hs hrR) ?_ (q_Wm_stp hW hrR (by omega) h7 h191 h192 h193 h42) ?_
      · show q_sn s + 1 ≤ _; omega
      · rw [q_vis, if_pos ⟨h1, h2⟩, hr]; rfl
    refine ⟨⟨by omega, by omega⟩, ⟨by omega, by omega⟩, ⟨by omega, by omega⟩, fun q => by omega, fun q => ⟨⟨by omega, by omega⟩, ⟨by omega, by omega⟩, ⟨by omega, by omega⟩, fun q2 => skip (by omega), fun q2 => ?_⟩⟩
    have e190 : I 190 (16 + rd i).toNat = I0 190 (16 + r) := by rw [hr, show (16 + (r : Int)).toNat = 16 + r by omega]; exact f 190 _ rfl
    rw [e190]
    have hrt : (rd i).toNat = r := by omega
    rcases hsh with ⟨rfl, rfl⟩ | ⟨rfl, hsh2⟩
    · exact ⟨by decide, fun _ => come ⟨a2, q2⟩ (by simp), fun z => absurd z (by decide)⟩
    · have h16 := hsh2 r (by omega)
      refine ⟨by decide, fun z => absurd rfl z, fun _ => ⟨⟨by omega, by omega⟩, ?_⟩⟩
      rw [h16]
      by_cases hb : sh.testBit r = true
      · rw [if_pos hb]
        exact ⟨by decide, fun _ => skip (fun z => by rw [hrt, hb] at z; exact absurd z.2 (by decide)), fun z => absurd z (by decide)⟩
      · rw [if_neg hb]
        exact ⟨by decide, fun z => absurd rfl z, fun _ => come ⟨a2, q2⟩ (by rw [hrt]; simpa using hb)⟩
theorem m_clear_L {g : x_G} {k : Nat} {Q : x_Q} {L : Nat → Nat → Int} {lp tp : Nat} {R : Nat} {v op : Int} (hR : R ≤ 8) : ∀ (m i : Nat) (I : Nat → Nat → Int), i + m = R → I 179 24 = (R : Int) → x_rg v → (∀ I', x_fr [(193, 0, 8)] I I' → (∀ r, r < i → I' 193 r = I 193 r) → (∀ r, i ≤ r → r < R → I' 193 r = 0) → (¬ v = -1 → x_S g (k + 1) 231 Q 21 [x_r 179, x_i v, x_i op, x_i 0, x_n] [] (I', L, lp, tp)) ∧ (v = -1 → Q [] (I', L, lp, tp))) → x_S g (k + 1) 231 Q 4 [x_r 179, x_i v, x_i op, x_i (i : Int), x_n] [] (I, L, lp, tp)
  | 0, i, I, hm, h24, hv, hq => by
    obtain ⟨q1, q2⟩ := hq I (x_fr_refl _ _) (fun _ _ => rfl) (fun r h1 h2 => by omega)
    refine v_goRoundM_L4 ?_
    rw [h24]
    exact ⟨⟨by omega, by omega⟩, ⟨by omega, by omega⟩, fun _ => ⟨hv, q1, q2⟩, fun q => by omega⟩
  | m + 1, i, I, hm, h24, hv, hq => by
    refine v_goRoundM_L4 ?_
    rw [h24]
    refine ⟨⟨by omega, by omega⟩, ⟨by omega, by omega⟩, fun q => by omega, fun q => ⟨⟨by omega, by omega⟩, ?_⟩⟩
    rw [show ((i : Int)).toNat = i by omega]
    have fr : x_fr [(193, 0, 8)] I (x_u I 193 i 0) := x_fr_u (x_fr_refl _ _) (x_memI (193, 0, 8) (by simp) rfl (by simp) (by simp; omega))
    refine m_clear_L hR m (i + 1) _ (by omega) h24 hv (fun I' f' h1 h2 => hq I' (x_fr_trans fr f') (fun r hr => ?_) (fun r hr1 hr2 => ?_))
    · rw [h1 r (by omega), x_u_ne _ _ (by omega)]
    · by_cases e : r = i
      · subst e; rw [h1 r (by omega), x_u_same]
      · exact h2 r (by omega) hr2
/-- goRound: none (-1), or round v -/
theorem m_goRound {g : x_G} {k : Nat} {Q : x_Q} {I L : Nat → Nat → Int} {lp tp : Nat} {y : q_Y} {FA : Nat → q_AV} {nl : Nat} (hk : 96 ≤ k) (hY : q_Yk y) (hYm : q_Ym I L y FA nl) {v op : Int} {sh : Nat} {rd : Nat → Int} (hv : (v = -1 ∧ ∀ x, rd x = -1) ∨ ∃ w : Nat, v = (w : Int) ∧ w ≤ 4 ∧ q_Rm I w rd) (hsh : q_shm I (q_yR y) sh op) {h c : Int} (eh : I 190 25 = h) (ec : I 190 26 = c) (hh : 0 ≤ h ∧ h ≤ 99) (hc : 0 ≤ c ∧ c ≤ 60) (hq : ∀ I' L' tp', x_fr q_fD I I' → q_Lo L L' → q_Ym I' L' y FA nl → q_Wm I' y (q_go y (q_s0 h c) (q_vis (q_yR y) sh rd 8 0)) → Q [] (I', L', lp, tp')) : x_X g k 231 [x_r 179, x_i v, x_i op] (I, L, lp, tp) Q := by
  obtain ⟨k, rfl⟩ : ∃ k', k = k' + 1 := ⟨k - 1, by omega⟩
  have hR : q_yR y ≤ 8 := by rcases hY.1.1 with q | q <;> omega
  refine v_goRoundM (x_le (show 1 ≤ k by omega) (v_setsOut (k := 0) ⟨rfl, ?_⟩))
  rw [eh, ec, hYm.1]
  have fr0 : x_fr q_fD I (x_u (x_u (x_u (x_u (x_u (x_u (x_u (x_u I 179 35 (-1)) 179 36 0) 179 37 h) 179 38 c) 179 39 0) 179 40 0) 179 41 0) 179 42 (x_shl 1 (q_yR y : Int) - 1)) := x_fr_u (x_fr_u (x_fr_u (x_fr_u (x_fr_u (x_fr_u (x_fr_u (x_fr_u (x_fr_refl _ _) rfl) rfl) rfl) rfl) rfl) rfl) rfl) rfl
  have lm : ∀ {J : Nat → Nat → Int} {k : Nat} {v : Int}, q_LM J L FA nl → q_LM (x_u J 179 k v) L FA nl := fun h => q_LM_u h (by decide)
  obtain ⟨y1, y2, y3, y4, y5, y6, y7⟩ := hYm
  have vr : x_rg v := by
    rcases hv with ⟨e, -⟩ | ⟨w, e, e2, -⟩
    · rw [e]; decide
    · rw [e]; exact ⟨by omega, by omega⟩
  refine m_clear_L hR (q_yR y) 0 _ (by omega) y1 vr (fun I' f' h1 h2 => ?_)
  have fr1 := x_fr_trans fr0 (x_fr_mono f' rfl : x_fr q_fD _ I')
  have hY' : q_Ym I' L y FA nl := q_Ym_eq (I := x_u (x_u (x_u (x_u (x_u (x_u (x_u (x_u I 179 35 (-1)) 179 36 0) 179 37 h) 179 38 c) 179 39 0) 179 40 0) 179 41 0) 179 42 (x_shl 1 (q_yR y : Int) - 1)) (L := L) ⟨y1, y2, y3, y4, y5, lm (lm (lm (lm (lm (lm (lm (lm y6))))))), y7⟩ (f' _ _ rfl) (f' _ _ rfl) (fun k => f' 184 k rfl) (fun k => f' 186 k rfl) (fun k => f' 190 k rfl) (q_LM_fr (S := []) (lm (lm (lm (lm (lm (lm (lm (lm y6)))))))) (fun k => f' 181 k rfl) (fun k => f' 182 k rfl) (fun k => f' 183 k rfl) (fun k => f' 195 k rfl) (fun a k ha => f' a k (by
    cases e : x_mem [(193, 0, 8)] a k with
    | false => rfl
    | true =>
      obtain ⟨t, t1, t2, -⟩ := (x_mem_iff _ a k).mp e
      simp at t1
      subst t1
      simp at t2
      omega)) (fun _ => rfl))
  have hW' : q_Wm I' y (q_s0 h c) := by
    refine ⟨⟨f' _ _ rfl, f' _ _ rfl, f' _ _ rfl, f' _ _ rfl, f' _ _ rfl, f' _ _ rfl, f' _ _ rfl⟩, ?_, fun r hr hb => ?_, fun r hr => h2 r (Nat.zero_le _) hr⟩
    · rw [f' 179 42 rfl]
      show q_lost y (q_s0 h c) (x_shl 1 (q_yR y : Int) - 1)
      refine ⟨2 ^ q_yR y - 1, q_every _ (by omega), ?_, fun r hr => ?_⟩
      · have : 2 ^ q_yR y ≤ 2 ^ 8 := Nat.pow_le_pow_right (by decide) hR
        have : 0 < 2 ^ q_yR y := Nat.pow_pos (by decide)
        omega
      · rw [q_every_bit]
        show _ = (decide (r < q_yR y) && !(0 : Nat).testBit r)
        simp
    · have : (0 : Nat).testBit r = true := hb
      simp at this
  rcases hv with ⟨rfl, hrd⟩ | ⟨w, rfl, hw, n, e189, hn, e188, erd⟩
  · refine ⟨fun z => absurd rfl z, fun _ => ?_⟩
    have := hq I' L tp fr1 (fun _ _ _ => rfl) hY'
    rw [q_vis_none _ _ _ 8 0 (fun x _ _ => hrd x)] at this
    exact this hW'
  · refine ⟨fun _ => ?_, fun z => by omega⟩
    have hcut : q_vis (q_yR y) sh rd 8 0 = q_vis (q_yR y) sh rd n 0 := by
      have := q_vis_cut (q_yR y) sh rd (8 - n) n 0 (fun x h1 h2 => erd x (by omega) (by omega))
      rw [show n + (8 - n) = 8 by omega] at this
      exact this
    rw [hcut] at hq
    refine m_round_L (by omega) hY hw hn I L e189 e188 hsh n 0 (q_s0 h c) I' L tp (by omega) fr1 (fun _ _ _ => rfl) hY' (q_Si_0 y hh hc) (Int.le_refl _) hW' hq
