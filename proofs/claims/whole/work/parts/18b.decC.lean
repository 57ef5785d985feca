/-! decades: the draws, the days, the class -/
theorem q_lush (x : Int) : 0 ≤ x_lush x 33 ∧ x_lush x 33 < 2147483648 := by
  unfold x_lush
  have e : ((Int32.ofInt 33).toInt64.toUInt64 &&& Int64.toUInt64 63) = 33 := by decide
  rw [e]
  generalize (Int64.ofInt x).toUInt64 = u
  have h : (u >>> 33).toNat < 2147483648 := by
    rw [UInt64.toNat_shiftRight, Nat.shiftRight_eq_div_pow]
    have := u.toNat_lt
    have e2 : (33 : UInt64).toNat % 64 = 33 := by decide
    rw [e2]
    omega
  have h2 : (u >>> 33).toInt64.toInt = ((u >>> 33).toNat : Int) := by
    show (u >>> 33).toBitVec.toInt = _
    rw [BitVec.toInt_eq_toNat_of_lt (by rw [UInt64.toNat_toBitVec]; omega), UInt64.toNat_toBitVec]
  rw [h2]
  omega
def q_x1 (x : Int) : Int := x * 6364136223846793005 + 1442695040888963407
def q_dw (x m : Int) : Int := Int.tmod (x_lush x 33) m
theorem q_dw_rg (x : Int) {m : Int} (h : 0 < m) : 0 ≤ q_dw x m ∧ q_dw x m < m := ⟨Int.tmod_nonneg _ (q_lush x).1, Int.tmod_lt_of_pos _ h⟩
theorem q_lush_rl (x : Int) : x_rl (x_lush x 33) := by have := q_lush x; exact ⟨by omega, by omega⟩
def q_dp (wb x : Int) (N : Nat → Int) : Int := if q_dw x 10 < wb then min 5 (N 24 + 1) else max 1 (N 24 - 1)
def q_dN (R : Nat) (wb x : Int) (N : Nat → Int) : Nat → Int := q_up (q_up N 24 (q_dp wb (q_x1 x) N)) (16 + (q_dw (q_x1 (q_x1 x)) (R : Int)).toNat) 1
def q_dr (nr : Nat) (x rh : Int) : Int := if nr = 0 then rh else q_dw (q_x1 (q_x1 (q_x1 x))) (nr : Int)
def q_dx (nr : Nat) (x : Int) : Int := if nr = 0 then q_x1 (q_x1 x) else q_x1 (q_x1 (q_x1 x))
def q_dz (R : Nat) (ru to : Nat → Int) (lo : Option q_F6) (nr : Nat) (RD : Nat → Nat → Int) (wb x : Int) (v : q_V) : q_Z := q_zo R ru to lo (q_rd RD (q_dr nr x (q_vr v))) (q_dN R wb x (q_vN v))
def q_ds (R : Nat) (ru to : Nat → Int) (lo : Option q_F6) (nr : Nat) (RD : Nat → Nat → Int) (wb x : Int) (v : q_V) : q_V := (q_zn (q_dz R ru to lo nr RD wb x v) (q_dN R wb x (q_vN v)), q_h1 (q_vH v) (q_vn v) (q_vN v), min 40 (q_vn v + 1), q_lgD (q_dz R ru to lo nr RD wb x v) (q_vN v 28).toNat (q_vl v), q_dr nr x (q_vr v))
def q_di (R : Nat) (ru to : Nat → Int) (lo : Option q_F6) (nr : Nat) (RD : Nat → Nat → Int) (wb : Int) : Nat → Int → q_V → q_V
  | 0, _, v => v
  | m + 1, x, v => q_di R ru to lo nr RD wb m (q_dx nr x) (q_ds R ru to lo nr RD wb x v)
theorem q_dr_k {nr : Nat} {RD : Nat → Nat → Int} {x rh : Int} (h : q_Rk nr RD rh) : q_Rk nr RD (q_dr nr x rh) := by
  unfold q_dr
  by_cases c : nr = 0
  · rw [if_pos c]; exact h
  · rw [if_neg c]
    have := q_dw_rg (q_x1 (q_x1 (q_x1 x))) (show (0 : Int) < (nr : Int) by omega)
    exact ⟨h.1, Or.inr this, h.2.2⟩
theorem q_dp_rg {wb x : Int} {N : Nat → Int} (h : 1 ≤ N 24 ∧ N 24 ≤ 5) : 1 ≤ q_dp wb x N ∧ q_dp wb x N ≤ 5 := by
  unfold q_dp
  by_cases c : q_dw x 10 < wb
  · rw [if_pos c]; omega
  · rw [if_neg c]; omega
theorem q_dN_k {R D : Nat} {wb x : Int} {N : Nat → Int} (hR : R ≤ 8) (h0 : ¬ R = 0) (h : q_Nk R N D) : q_Nk R (q_dN R wb x N) D := by
  have hw := q_dw_rg (q_x1 (q_x1 x)) (show (0 : Int) < (R : Int) by omega)
  exact q_Nk_s (q_Nk_24 h (q_dp_rg (h.2.2.1 h0))) hR (by omega)
theorem q_dN_Lr {R D : Nat} {wb x : Int} {N lg : Nat → Int} (hR : R ≤ 8) (h0 : ¬ R = 0) (h : q_Lr lg N D) : q_Lr lg (q_dN R wb x N) D := by
  have hw := q_dw_rg (q_x1 (q_x1 x)) (show (0 : Int) < (R : Int) by omega)
  exact q_Lr_up (q_Lr_up h (by omega)) (by omega)
theorem q_ds_k {R D : Nat} {ru to : Nat → Int} {lo : Option q_F6} {nr : Nat} {RD : Nat → Nat → Int} {wb x : Int} {v : q_V} (hW : q_Wo R ru to) (h0 : ¬ R = 0) (hr : q_Rk nr RD (q_vr v)) (hD : D < 9999) (hN : q_Nk R (q_vN v) D) (hH : q_Hk R (q_vN v) (q_vH v) (q_vn v) (q_vl v)) : q_Nk R (q_vN (q_ds R ru to lo nr RD wb x v)) (D + 1) ∧ q_Hk R (q_vN (q_ds R ru to lo nr RD wb x v)) (q_vH (q_ds R ru to lo nr RD wb x v)) (q_vn (q_ds R ru to lo nr RD wb x v)) (q_vl (q_ds R ru to lo nr RD wb x v)) := by
  have hR : R ≤ 8 := by rcases hW.1 with h | h <;> omega
  have hZ : q_Zk (q_dz R ru to lo nr RD wb x v) := q_zo_k hW (q_dN_k hR h0 hN) (q_rd_k (q_dr_k hr))
  have e28 : q_vN v 28 = (D : Int) := hN.2.2.2.2.2.2.1
  obtain ⟨D', -, hL⟩ := q_Hk_d hH
  have eD : D' = D := by have := hL.1; omega
  subst eD
  have l1 := q_dN_Lr (wb := wb) (x := x) hR h0 hL
  have eD2 : (q_vN v 28).toNat = D' := by omega
  refine ⟨q_zn_k hZ rfl (q_dN_k hR h0 hN) hD l1.2.1, ?_⟩
  show q_Hk R (q_zn _ _) _ _ (q_lgD _ (q_vN v 28).toNat _)
  rw [eD2]
  exact q_Hk_day hH hZ rfl e28 hD (q_dN_k hR h0 hN) l1
theorem q_St_s {I : Nat → Nat → Int} {N : Nat → Int} (h : q_St I 18 N) {a : Nat} (ha : a < 8) : q_St (x_u I 18 2 (x_or (I 18 2) (x_shl 1 (a : Int)))) 18 (q_up N (16 + a) 1) := by
  obtain ⟨p1, ⟨d, d1, d2, d3⟩, p3, p4, p5, p6, p7⟩ := h
  obtain ⟨o1, o2⟩ := q_or1 d a d1 ha
  rw [d2, o1]
  refine ⟨fun r hr => ⟨?_, ?_⟩, ⟨d ||| 2 ^ a, o2, rfl, fun r hr => ?_⟩, ?_, ?_, ?_, ?_, ?_⟩
  · rw [q_up_ne (by omega)]; exact (p1 r hr).1
  · rw [q_up_ne (by omega)]; exact (p1 r hr).2
  · rw [Nat.testBit_or, Nat.testBit_two_pow]
    by_cases e : r = a
    · rw [e, q_up_at]; simp
    · rw [q_up_ne (by omega), d3 r hr]
      have : decide (a = r) = false := by simp; omega
      rw [this, Bool.or_false]
  · rw [q_up_ne (by omega)]; exact p3
  · rw [q_up_ne (by omega)]; exact p4
  · rw [q_up_ne (by omega)]; exact p5
  · rw [q_up_ne (by omega)]; exact p6
  · rw [q_up_ne (by omega)]; exact p7
theorem q_Kc_dr {I : Nat → Nat → Int} {lp R : Nat} {ru to : Nat → Int} {lo : Option q_F6} {nr : Nat} {RD : Nat → Nat → Int} {v : q_V} (hR : R ≤ 8) (hn : nr ≤ 4) (h : q_Kc I lp R ru to lo nr RD v) (p : Int) {r : Int} (h0 : 0 ≤ r) (h8 : r < 8) : q_Kc (x_u (x_u I 18 3 p) 18 2 (x_or (I 18 2) (x_shl 1 r))) lp R ru to lo nr RD (q_up (q_up (q_vN v) 24 p) (16 + r.toNat) 1, q_vH v, q_vn v, q_vl v, q_vr v) := by
  obtain ⟨a, rfl⟩ := Int.eq_ofNat_of_zero_le h0
  have f : x_fr [(18, 2, 4)] I (x_u (x_u I 18 3 p) 18 2 (x_or (I 18 2) (x_shl 1 (a : Int)))) := x_fr_u (x_fr_u (x_fr_refl _ _) rfl) rfl
  refine q_Kc_ag hR hn h (x_fr_ag f rfl) h.2.2.2.1 ?_ (q_Ac_fr h.2.2.2.2.2.1 rfl rfl (fun b k h1 h2 => (x_u_ne _ _ (by omega)).trans (x_u_ne _ _ (by omega)))) h.2.2.2.2.2.2
  have s1 := q_St_f h.2.2.2.2.1 3 (Or.inl rfl) p
  have s2 := q_St_s s1 (show a < 8 by omega)
  rw [show ((a : Int)).toNat = a by omega]
  exact s2
theorem q_Kc_rh {I : Nat → Nat → Int} {lp R : Nat} {ru to : Nat → Int} {lo : Option q_F6} {nr : Nat} {RD : Nat → Nat → Int} {v : q_V} (hR : R ≤ 8) (hn : nr ≤ 4) (h : q_Kc I lp R ru to lo nr RD v) (rh : Int) : q_Kc (x_u I 1 16 rh) lp R ru to lo nr RD (q_vN v, q_vH v, q_vn v, q_vl v, rh) := by
  have f : x_fr [(1, 16, 17)] I (x_u I 1 16 rh) := x_fr_u (x_fr_refl _ _) rfl
  exact q_Kc_ag hR hn h (x_fr_ag f rfl) rfl (q_St_eq h.2.2.2.2.1 (fun _ _ _ => rfl) (fun _ _ => ⟨rfl, rfl⟩)) (q_Ac_fr h.2.2.2.2.2.1 rfl rfl (fun b k h1 h2 => x_u_ne _ _ (by omega))) h.2.2.2.2.2.2
theorem c_dec_L {g : x_G} {k : Nat} {Q : x_Q} {L : Nat → Nat → Int} {lp tp R : Nat} {ru to : Nat → Int} {lo : Option q_F6} {nr n : Nat} {RD : Nat → Nat → Int} {wb : Int} (hW : q_Wo R ru to) (h0 : ¬ R = 0) (hwb : 0 ≤ wb ∧ wb ≤ 9) (hn : 1 ≤ n ∧ n ≤ 60) (I0 : Nat → Nat → Int) (e17 : I0 1 17 = wb) : ∀ (m i : Nat) (x : Int) (v : q_V) (D : Nat) (I : Nat → Nat → Int), i + m = n → q_Kc I lp R ru to lo nr RD v → q_Rk nr RD (q_vr v) → q_Nk R (q_vN v) D → q_Hk R (q_vN v) (q_vH v) (q_vn v) (q_vl v) → D + m ≤ 9999 → x_fr q_fDc I0 I → (i = 0 ∨ I 161 1 = 0) → (∀ I', x_fr q_fDc I0 I' → I' 161 1 = 0 → q_Kc I' lp R ru to lo nr RD (q_di R ru to lo nr RD wb m x v) → Q [x_i (q_vN (q_di R ru to lo nr RD wb m x v) 28)] (I', L, lp, tp)) → x_S g (k + 17) 137 Q 22 [x_r 1, x_i (n : Int), x_n, x_n, x_l x, x_n, x_i (i : Int), x_n] [] (I, L, lp, tp)
  | 0, i, x, v, D, I => fun hi hK hr hN hH hD hf hb hq => by
    refine v_decades_L22 (k := k + 15) ⟨⟨by omega, by omega⟩, ⟨by omega, by omega⟩, fun _ => ?_, fun c => by omega⟩
    have e7 : I 18 7 = q_vN v 28 := hK.2.2.2.2.1.2.2.2.2.2.2
    rw [e7]
    exact hq I hf (by omega) hK
  | m + 1, i, x, v, D, I => fun hi hK hr hN hH hD hf hb hq => by
    have hR : R ≤ 8 := by rcases hW.1 with h | h <;> omega
    have hp := hN.2.2.1 h0
    have e28 : q_vN v 28 = (D : Int) := hN.2.2.2.2.2.2.1
    refine v_decades_L22 (k := k + 15) ⟨⟨by omega, by omega⟩, ⟨by omega, by omega⟩, fun c => by omega, fun _ => ?_⟩
    refine x_le (show 4 ≤ k + 15 by omega) (c_begin (k := 0) hR hr.1 hK (fun I1 f1 e1 K1 => ⟨rfl, ?_⟩))
    have g1 : x_fr q_fDc I0 I1 := x_fr_trans hf (x_fr_r f1)
    have g17 : I1 1 17 = wb := (g1 _ _ (by decide +kernel)).trans e17
    have g183 : I1 18 3 = q_vN v 24 := K1.2.2.2.2.1.2.2.1
    have g143 : I1 14 3 = (R : Int) := K1.1.1
    have g115 : I1 1 15 = (nr : Int) := K1.2.2.1.1
    have w1 := q_dw_rg (q_x1 x) (show (0 : Int) < 10 by decide)
    have w2 := q_dw_rg (q_x1 (q_x1 x)) (show (0 : Int) < (R : Int) by omega)
    have step : ∀ (p rh1 x1 : Int) (I2 : Nat → Nat → Int), p = q_dp wb (q_x1 x) (q_vN v) → rh1 = q_dr nr x (q_vr v) → x1 = q_dx nr x → x_fr q_fDc I0 I2 → I2 161 1 = 0 → q_Kc I2 lp R ru to lo nr RD (q_up (q_up (q_vN v) 24 p) (16 + (q_dw (q_x1 (q_x1 x)) (R : Int)).toNat) 1, q_h1 (q_vH v) (q_vn v) (q_vN v), min 40 (q_vn v + 1), q_vl v, rh1) → x_X g (k + 15) 145 [x_r 1] (I2, L, lp, tp) (fun rv w9 => rv = [] ∧ x_S g (k + 15 + 2) 137 Q 22 [x_r 1, x_i (n : Int), x_n, x_n, x_l x1, x_n, x_i ((i : Int) + 1), x_n] [] w9) := fun p rh1 x1 I2 ep er ex f2 b2 K2 => by
      subst ep er ex
      refine c_pass (D := D) hW (q_dr_k hr) K2 (q_dN_k hR h0 hN) (by omega) (fun I3 f3 e3 K3 => ⟨rfl, ?_⟩)
      have kk := q_ds_k (lo := lo) (wb := wb) (x := x) hW h0 hr (show D < 9999 by omega) hN hH
      have eD : (q_vN v 28).toNat = D := by omega
      refine c_dec_L hW h0 hwb hn I0 e17 m (i + 1) (q_dx nr x) (q_ds R ru to lo nr RD wb x v) (D + 1) I3 (by omega) ?_ (q_dr_k hr) kk.1 kk.2 (by omega) (x_fr_trans f2 (x_fr_l (x_fr_mono f3 rfl))) (Or.inr ((f3 _ _ rfl).trans b2)) hq
      unfold q_ds
      rw [eD]
      exact K3
    dsimp only
    rw [g17, g183, g143, g115]
    rw [show x * 6364136223846793005 + 1442695040888963407 = q_x1 x from rfl, show q_x1 x * 6364136223846793005 + 1442695040888963407 = q_x1 (q_x1 x) from rfl, show q_x1 (q_x1 x) * 6364136223846793005 + 1442695040888963407 = q_x1 (q_x1 (q_x1 x)) from rfl, show Int.tmod (x_lush (q_x1 x) 33) 10 = q_dw (q_x1 x) 10 from rfl, show Int.tmod (x_lush (q_x1 (q_x1 x)) 33) (R : Int) = q_dw (q_x1 (q_x1 x)) (R : Int) from rfl, show Int.tmod (x_lush (q_x1 (q_x1 (q_x1 x))) 33) (nr : Int) = q_dw (q_x1 (q_x1 (q_x1 x))) (nr : Int) from rfl]
    have go0 : ∀ p, p = q_dp wb (q_x1 x) (q_vN v) → nr = 0 → x_X g (k + 15) 145 [x_r 1] (x_u (x_u I1 18 3 p) 18 2 (x_or (I1 18 2) (x_shl 1 (q_dw (q_x1 (q_x1 x)) (R : Int)))), L, lp, tp) (fun rv w9 => rv = [] ∧ x_S g (k + 15 + 2) 137 Q 22 [x_r 1, x_i (n : Int), x_n, x_n, x_l (q_x1 (q_x1 x)), x_n, x_i ((i : Int) + 1), x_n] [] w9) := fun p ep c => step p (q_vr v) _ _ ep (if_pos c).symm (if_pos c).symm (x_fr_u (x_fr_u g1 rfl) rfl) e1 (q_Kc_dr hR hr.1 K1 p w2.1 (by omega))
    have go1 : ∀ p, p = q_dp wb (q_x1 x) (q_vN v) → ¬ nr = 0 → x_X g (k + 15) 145 [x_r 1] (x_u (x_u (x_u I1 18 3 p) 18 2 (x_or (I1 18 2) (x_shl 1 (q_dw (q_x1 (q_x1 x)) (R : Int))))) 1 16 (q_dw (q_x1 (q_x1 (q_x1 x))) (nr : Int)), L, lp, tp) (fun rv w9 => rv = [] ∧ x_S g (k + 15 + 2) 137 Q 22 [x_r 1, x_i (n : Int), x_n, x_n, x_l (q_x1 (q_x1 (q_x1 x))), x_n, x_i ((i : Int) + 1), x_n] [] w9) := fun p ep c => step p _ _ _ ep (if_neg c).symm (if_neg c).symm (x_fr_u (x_fr_u (x_fr_u g1 rfl) rfl) rfl) e1 (q_Kc_rh hR hr.1 (q_Kc_dr hR hr.1 K1 p w2.1 (by omega)) _)
    have r4 := hr.1
    refine ⟨q_lush_rl _, ⟨by omega, by omega⟩, ⟨by omega, by omega⟩, fun c => ?_, fun c => ?_⟩
    · have ep : max 1 (min (q_vN v 24 + (-1)) 5) = q_dp wb (q_x1 x) (q_vN v) := by
        unfold q_dp
        rw [if_neg (by omega)]
        omega
      refine ⟨⟨by omega, by omega⟩, ⟨by omega, by omega⟩, fun c1 => by omega, fun _ => ⟨q_lush_rl _, by omega, ⟨by omega, by omega⟩, fun c2 => go0 _ ep (by omega), fun c2 => ⟨q_lush_rl _, by omega, go1 _ ep (by omega)⟩⟩⟩
    · have ep : max 1 (min (q_vN v 24 + 1) 5) = q_dp wb (q_x1 x) (q_vN v) := by
        unfold q_dp
        rw [if_pos c]
        omega
      refine ⟨⟨by omega, by omega⟩, ⟨by omega, by omega⟩, fun c1 => by omega, fun _ => ⟨q_lush_rl _, by omega, ⟨by omega, by omega⟩, fun c2 => go0 _ ep (by omega), fun c2 => ⟨q_lush_rl _, by omega, go1 _ ep (by omega)⟩⟩⟩
theorem c_decades {g : x_G} {k : Nat} {Q : x_Q} {I L : Nat → Nat → Int} {lp tp R : Nat} {ru to : Nat → Int} {lo : Option q_F6} {nr D : Nat} {RD : Nat → Nat → Int} {wb : Int} {v : q_V} (hW : q_Wo R ru to) (hwb : 0 ≤ wb ∧ wb ≤ 9) (e17 : I 1 17 = wb) (hr : q_Rk nr RD (q_vr v)) (hK : q_Kc I lp R ru to lo nr RD v) (hN : q_Nk R (q_vN v) D) (hH : q_Hk R (q_vN v) (q_vH v) (q_vn v) (q_vl v)) {n s : Int} (hn : x_rg n) (q0 : ¬ (¬ R = 0 ∧ 1 ≤ n ∧ n ≤ 60 ∧ (D : Int) + n ≤ 9999) → Q [x_i (-1)] (I, L, lp, tp)) (q1 : ¬ R = 0 → 1 ≤ n → n ≤ 60 → (D : Int) + n ≤ 9999 → ∀ I', x_fr q_fDc I I' → I' 161 1 = 0 → q_Kc I' lp R ru to lo nr RD (q_di R ru to lo nr RD wb n.toNat s v) → Q [x_i (q_vN (q_di R ru to lo nr RD wb n.toNat s v) 28)] (I', L, lp, tp)) : x_X g (k + 17) 137 [x_r 1, x_i n, x_l s] (I, L, lp, tp) Q := by
  have hR : R ≤ 8 := by rcases hW.1 with h | h <;> omega
  have e3 : I 14 3 = (R : Int) := hK.1.1
  have e7 : I 18 7 = (D : Int) := hK.2.2.2.2.1.2.2.2.2.2.2.trans hN.2.2.2.2.2.2.1
  have h8 := hN.2.2.2.2.2.2.2.1
  refine v_decades (k := k + 15) ?_
  rw [e3, e7]
  refine ⟨⟨by omega, by omega⟩, fun c => ⟨hn, fun c1 => q0 (by omega), fun c1 => ⟨fun c2 => q0 (by omega), fun c2 => ⟨⟨by omega, by omega⟩, fun c3 => ?_, fun c3 => q0 (by omega)⟩⟩⟩, fun c => q0 (by omega)⟩
  obtain ⟨n', rfl⟩ := Int.eq_ofNat_of_zero_le (show 0 ≤ n by omega)
  exact c_dec_L (n := n') hW (by omega) hwb (by omega) I e17 n' 0 s v D I (by omega) hK hr hN hH (by omega) (x_fr_refl _ _) (Or.inl rfl) (q1 (by omega) c1 c2 c3)
