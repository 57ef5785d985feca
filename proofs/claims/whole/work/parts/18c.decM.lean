/-! day, decades: the reference -/
def q_Km (I L : Nat → Nat → Int) (FA : Nat → q_AV) (nl R : Nat) (ru to : Nat → Int) (lo : Option q_F6) (nr : Nat) (RD : Nat → Nat → Int) (v : q_V) : Prop := I 179 24 = (R : Int) ∧ (∀ k, k < 4 → I 184 k = ru k) ∧ (∀ k, k < 5 * R → I 186 k = to k) ∧ q_LM I L FA nl ∧ q_LH I FA nl lo ∧ (I 179 26 = (nr : Int) ∧ ∀ j, j < nr → q_Rm I j (RD j)) ∧ I 179 30 = q_vr v ∧ (∀ x, x < 210 → I 190 x = q_vN v x) ∧ q_Am I (q_vH v) (q_vn v)
theorem q_Km_eq {I I' L L' : Nat → Nat → Int} {FA : Nat → q_AV} {nl R : Nat} {ru to : Nat → Int} {lo : Option q_F6} {nr : Nat} {RD : Nat → Nat → Int} {v v' : q_V} (h : q_Km I L FA nl R ru to lo nr RD v) (e24 : I' 179 24 = I 179 24) (e26 : I' 179 26 = I 179 26) (e29 : I' 179 29 = I 179 29) (e184 : ∀ k, I' 184 k = I 184 k) (e186 : ∀ k, I' 186 k = I 186 k) (e188 : ∀ k, I' 188 k = I 188 k) (e189 : ∀ k, I' 189 k = I 189 k) (hL : q_LM I' L' FA nl) (e30 : I' 179 30 = q_vr v') (hN : ∀ x, x < 210 → I' 190 x = q_vN v' x) (hA : q_Am I' (q_vH v') (q_vn v')) : q_Km I' L' FA nl R ru to lo nr RD v' := by
  obtain ⟨h1, h2, h3, h4, h5, ⟨h6, h7⟩, h8, h9, h10⟩ := h
  refine ⟨e24.trans h1, fun k hk => (e184 k).trans (h2 k hk), fun k hk => (e186 k).trans (h3 k hk), hL, ?_, ⟨e26.trans h6, fun j hj => q_Rm_eq (h7 j hj) e188 e189⟩, e30, hN, hA⟩
  unfold q_LH
  rw [e29]
  exact h5
theorem q_Km_ZM {I L : Nat → Nat → Int} {FA : Nat → q_AV} {nl R : Nat} {ru to : Nat → Int} {lo : Option q_F6} {nr D : Nat} {RD : Nat → Nat → Int} {v : q_V} (hR : R ≤ 8) (hr : q_Rk nr RD (q_vr v)) (hN : q_Nk R (q_vN v) D) (h : q_Km I L FA nl R ru to lo nr RD v) : q_ZM I L (q_zo R ru to lo (q_rd RD (q_vr v)) (q_vN v)) FA nl := by
  obtain ⟨h1, h2, h3, h4, h5, ⟨h6, h7⟩, h8, h9, h10⟩ := h
  obtain ⟨r1, r2, r3⟩ := hr
  refine ⟨⟨h1, h2, h3, h9 24 (by omega), fun r hr => h9 r (by have : r < R := hr; omega), h4, h5⟩, ?_, fun r hr => ?_, h9 25 (by omega), h9 26 (by omega)⟩
  · by_cases c : q_vr v = -1
    · exact Or.inl ⟨h8.trans c, fun x => if_pos c⟩
    · refine Or.inr ⟨(q_vr v).toNat, by rw [h8]; omega, by omega, ?_⟩
      have e : q_rd RD (q_vr v) = RD (q_vr v).toNat := funext fun x => if_neg c
      show q_Rm I _ (q_rd RD (q_vr v))
      rw [e]
      exact h7 _ (by omega)
  · have hr8 : r < 8 := by have : r < R := hr; omega
    show I 190 (16 + r) = if (q_dn (q_vN v)).testBit r = true then 1 else 0
    rw [h9 (16 + r) (by omega), q_dn_bit _ hr8]
    rcases (hN.1 r hr8).2.2 with c | c
    · rw [c]; rfl
    · rw [c]; rfl
theorem q_zn_cg {z : q_Z} {N N' : Nat → Int} (h : ∀ x, x < 210 → N x = N' x) {x : Nat} (hx : x < 210) : q_zn z N x = q_zn z N' x := by
  unfold q_zn q_nd
  rw [h x hx, h 27 (by omega), h 28 (by omega), h 29 (by omega)]
  by_cases c : x < 207
  · rw [h (x + 3) (by omega)]
  · simp only [if_neg c]
theorem q_Am_cg {I : Nat → Nat → Int} {H H' : Nat → Nat → Int} {na : Nat} (h : q_Am I H na) (e : ∀ j, j < na → ∀ k, k < 210 → H j k = H' j k) : q_Am I H' na := ⟨h.1, h.2.1, fun j hj k hk => (h.2.2 j hj k hk).trans (e j hj k hk)⟩
theorem q_h1_cg {H : Nat → Nat → Int} {na : Nat} {N N' : Nat → Int} (h : ∀ x, x < 210 → N x = N' x) (j : Nat) {k : Nat} (hk : k < 210) : q_h1 H na N j k = q_h1 H na N' j k := by
  unfold q_h1
  by_cases c : j = min na 39
  · rw [if_pos c, if_pos c]; exact h k hk
  · rw [if_neg c, if_neg c]
theorem m_pass {g : x_G} {k : Nat} {Q : x_Q} {I L : Nat → Nat → Int} {FA : Nat → q_AV} {lp tp nl R : Nat} {ru to : Nat → Int} {lo : Option q_F6} {nr D : Nat} {RD : Nat → Nat → Int} {v : q_V} (hk : 100 ≤ k) (hW : q_Wo R ru to) (hr : q_Rk nr RD (q_vr v)) (hK : q_Km I L FA nl R ru to lo nr RD v) (hN : q_Nk R (q_vN v) D) (h29 : q_vN v 29 = ((min 60 D : Nat) : Int)) (hq : ∀ I' L' tp', x_fr q_fDd I I' → q_Lo L L' → I' 179 40 = q_so (q_zs (q_zo R ru to lo (q_rd RD (q_vr v)) (q_vN v))) → (∀ lg, q_Km I' L' FA nl R ru to lo nr RD (q_zn (q_zo R ru to lo (q_rd RD (q_vr v)) (q_vN v)) (q_vN v), q_vH v, q_vn v, lg, q_vr v)) → Q [] (I', L', lp, tp')) : x_X g k 233 [x_r 179] (I, L, lp, tp) Q := by
  have hR : R ≤ 8 := by rcases hW.1 with h | h <;> omega
  have hZ := q_zo_k (lo := lo) hW hN (q_rd_k hr)
  have e := hK.2.2.2.2.2.2.2.1
  refine m_goDay (D := D) hk hZ (q_Km_ZM hR hr hN hK) (fun r h => by rw [e (8 + r) (by omega)]; exact (hN.1 r h).2.1) (by rw [e 29 (by omega)]; exact h29) (fun I1 L1 tp1 f1 l1 m1 e1 n1 => ?_)
  refine hq I1 L1 tp1 f1 l1 e1 (fun lg => q_Km_eq hK (f1 _ _ rfl) (f1 _ _ rfl) (f1 _ _ rfl) (fun k => f1 184 k rfl) (fun k => f1 186 k rfl) (fun k => f1 188 k rfl) (fun k => f1 189 k rfl) m1 ((f1 _ _ rfl).trans hK.2.2.2.2.2.2.1) (fun x hx => (n1 x hx).trans (q_zn_cg e hx)) ?_)
  have hA := hK.2.2.2.2.2.2.2.2
  exact ⟨(f1 _ _ rfl).trans hA.1, hA.2.1, fun j hj k hk => (f1 196 _ rfl).trans (hA.2.2 j hj k hk)⟩
theorem m_begin {g : x_G} {k : Nat} {Q : x_Q} {I L : Nat → Nat → Int} {FA : Nat → q_AV} {lp tp nl R : Nat} {ru to : Nat → Int} {lo : Option q_F6} {nr : Nat} {RD : Nat → Nat → Int} {v : q_V} (hK : q_Km I L FA nl R ru to lo nr RD v) (hq : ∀ I', x_fr q_fP I I' → (∀ lg, q_Km I' L FA nl R ru to lo nr RD (q_vN v, q_h1 (q_vH v) (q_vn v) (q_vN v), min 40 (q_vn v + 1), lg, q_vr v)) → Q [] (I', L, lp, tp)) : x_X g (k + 1) 242 [x_r 179] (I, L, lp, tp) Q := by
  have e := hK.2.2.2.2.2.2.2.1
  refine m_remember hK.2.2.2.2.2.2.2.2 (fun I1 f1 hA1 => hq I1 f1 (fun lg => q_Km_eq hK (f1 _ _ rfl) (f1 _ _ rfl) (f1 _ _ rfl) (fun k => f1 184 k rfl) (fun k => f1 186 k rfl) (fun k => f1 188 k rfl) (fun k => f1 189 k rfl) ?_ ((f1 _ _ rfl).trans hK.2.2.2.2.2.2.1) (fun x hx => (f1 190 x rfl).trans (e x hx)) (q_Am_cg hA1 (fun j _ k hk => q_h1_cg e j hk))))
  refine q_LM_fr (S := []) hK.2.2.2.1 (fun k => f1 181 k rfl) (fun k => f1 182 k rfl) (fun k => f1 183 k rfl) (fun k => f1 195 k rfl) (fun a k ha => f1 a k ?_) (fun _ => rfl)
  cases e : x_mem q_fP a k with
  | false => rfl
  | true =>
    obtain ⟨t, m1, m2, -⟩ := (x_mem_iff _ a k).mp e
    simp only [q_fP, List.mem_cons, List.not_mem_nil, or_false] at m1
    rcases m1 with rfl | rfl
    · dsimp only at m2; omega
    · dsimp only at m2; omega
theorem q_Km_0 {I L : Nat → Nat → Int} {FA : Nat → q_AV} {nl R : Nat} {ru to : Nat → Int} {lo : Option q_F6} {nr : Nat} {RD : Nat → Nat → Int} {v : q_V} (h : q_Km I L FA nl R ru to lo nr RD v) : q_Km (x_u I 179 0 0) L FA nl R ru to lo nr RD v := q_Km_eq h rfl rfl rfl (fun _ => rfl) (fun _ => rfl) (fun _ => rfl) (fun _ => rfl) (q_LM_u h.2.2.2.1 (by decide)) h.2.2.2.2.2.2.1 h.2.2.2.2.2.2.2.1 h.2.2.2.2.2.2.2.2
abbrev q_fDm : List (Nat × Nat × Nat) := [(179, 0, 1), (196, 0, 8400), (179, 46, 47), (179, 30, 31), (190, 0, 210), (179, 8, 15), (179, 17, 18), (183, 0, 128), (195, 0, 8191), (179, 35, 43), (191, 0, 8), (192, 0, 8), (193, 0, 8)]
theorem m_day {g : x_G} {k : Nat} {Q : x_Q} {I L : Nat → Nat → Int} {FA : Nat → q_AV} {lp tp nl R : Nat} {ru to : Nat → Int} {lo : Option q_F6} {nr D : Nat} {RD : Nat → Nat → Int} {v : q_V} (hk : 100 ≤ k) (hW : q_Wo R ru to) (hr : q_Rk nr RD (q_vr v)) (hK : q_Km I L FA nl R ru to lo nr RD v) (hN : q_Nk R (q_vN v) D) (h29 : q_vN v 29 = ((min 60 D : Nat) : Int)) (q0 : R = 0 ∨ D = 9999 → Q [x_i (-1)] (x_u I 179 0 0, L, lp, tp)) (q1 : ¬ R = 0 → D < 9999 → ∀ I' L' tp', x_fr q_fDm I I' → q_Lo L L' → (∀ lg, q_Km I' L' FA nl R ru to lo nr RD (q_zn (q_zo R ru to lo (q_rd RD (q_vr v)) (q_vN v)) (q_vN v), q_h1 (q_vH v) (q_vn v) (q_vN v), min 40 (q_vn v + 1), lg, q_vr v)) → Q [x_i (q_so (q_zs (q_zo R ru to lo (q_rd RD (q_vr v)) (q_vN v))))] (I', L', lp, tp')) : x_X g (k + 1) 243 [x_r 179] (I, L, lp, tp) Q := by
  have hR : R ≤ 8 := by rcases hW.1 with h | h <;> omega
  have e24 : I 179 24 = (R : Int) := hK.1
  have e28 : I 190 28 = (D : Int) := (hK.2.2.2.2.2.2.2.1 28 (by omega)).trans hN.2.2.2.2.2.2.1
  have h8 := hN.2.2.2.2.2.2.2.1
  refine v_dayM (k := k) ?_
  rw [e24, e28]
  refine ⟨⟨by omega, by omega⟩, fun c => q0 (by omega), fun c => ⟨⟨by omega, by omega⟩, fun c1 => ?_, fun c1 => q0 (by omega)⟩⟩
  refine x_le (show 1 ≤ k by omega) (m_begin (k := 0) (q_Km_0 hK) (fun I1 f1 K1 => ⟨rfl, ?_⟩))
  refine m_pass (v := (q_vN v, q_h1 (q_vH v) (q_vn v) (q_vN v), min 40 (q_vn v + 1), q_vl v, q_vr v)) hk hW hr (K1 (q_vl v)) hN h29 (fun I2 L2 tp2 f2 l2 e2 K2 => ⟨rfl, ?_⟩)
  dsimp only
  rw [e2]
  exact q1 (by omega) (by omega) I2 L2 tp2 (x_fr_trans (x_fr_u (x_fr_refl _ _) rfl) (x_fr_trans (x_fr_mono f1 rfl) (x_fr_mono f2 rfl))) l2 K2
def q_Lp (L L' : Nat → Nat → Int) : Prop := ∀ a k, a ≠ 194 → a ≠ 179 → L' a k = L a k
theorem m_draw {g : x_G} {k : Nat} {Q : x_Q} {I L : Nat → Nat → Int} {lp tp : Nat} {m : Int} (h0 : 0 < m) (hm : m ≤ 100) (hq : Q [x_i (q_dw (q_x1 (L 179 47)) m)] (I, x_u L 179 47 (q_x1 (L 179 47)), lp, tp)) : x_X g (k + 1) 248 [x_r 179, x_i m] (I, L, lp, tp) Q := v_drawM (k := k) ⟨⟨by omega, by omega⟩, q_lush_rl _, by omega, hq⟩
theorem q_Km_L {I L L' : Nat → Nat → Int} {FA : Nat → q_AV} {nl R : Nat} {ru to : Nat → Int} {lo : Option q_F6} {nr : Nat} {RD : Nat → Nat → Int} {v : q_V} (h : q_Km I L FA nl R ru to lo nr RD v) (hl : ∀ k, L' 194 k = L 194 k) : q_Km I L' FA nl R ru to lo nr RD v := q_Km_eq h rfl rfl rfl (fun _ => rfl) (fun _ => rfl) (fun _ => rfl) (fun _ => rfl) (q_LM_fr (S := []) h.2.2.2.1 (fun _ => rfl) (fun _ => rfl) (fun _ => rfl) (fun _ => rfl) (fun _ _ _ => rfl) hl) h.2.2.2.2.2.2.1 h.2.2.2.2.2.2.2.1 h.2.2.2.2.2.2.2.2
theorem q_Km_N {I L : Nat → Nat → Int} {FA : Nat → q_AV} {nl R : Nat} {ru to : Nat → Int} {lo : Option q_F6} {nr : Nat} {RD : Nat → Nat → Int} {v : q_V} (h : q_Km I L FA nl R ru to lo nr RD v) (k : Nat) (p : Int) : q_Km (x_u I 190 k p) L FA nl R ru to lo nr RD (q_up (q_vN v) k p, q_vH v, q_vn v, q_vl v, q_vr v) := q_Km_eq h rfl rfl rfl (fun _ => rfl) (fun _ => rfl) (fun _ => rfl) (fun _ => rfl) (q_LM_u h.2.2.2.1 (by decide)) h.2.2.2.2.2.2.1 (fun x hx => by
  rw [q_upN]
  show q_up (I 190) k p x = q_up (q_vN v) k p x
  unfold q_up
  rw [h.2.2.2.2.2.2.2.1 x hx]) (q_Am_N h.2.2.2.2.2.2.2.2)
theorem q_Km_rh {I L : Nat → Nat → Int} {FA : Nat → q_AV} {nl R : Nat} {ru to : Nat → Int} {lo : Option q_F6} {nr : Nat} {RD : Nat → Nat → Int} {v : q_V} (h : q_Km I L FA nl R ru to lo nr RD v) (rh : Int) : q_Km (x_u I 179 30 rh) L FA nl R ru to lo nr RD (q_vN v, q_vH v, q_vn v, q_vl v, rh) := q_Km_eq h rfl rfl rfl (fun _ => rfl) (fun _ => rfl) (fun _ => rfl) (fun _ => rfl) (q_LM_u h.2.2.2.1 (by decide)) rfl h.2.2.2.2.2.2.2.1 h.2.2.2.2.2.2.2.2
theorem m_dec_L {g : x_G} {k : Nat} {Q : x_Q} {FA : Nat → q_AV} {lp nl R : Nat} {ru to : Nat → Int} {lo : Option q_F6} {nr n : Nat} {RD : Nat → Nat → Int} {wb : Int} (hk : 100 ≤ k) (hW : q_Wo R ru to) (h0 : ¬ R = 0) (hwb : 0 ≤ wb ∧ wb ≤ 9) (hn : 1 ≤ n ∧ n ≤ 60) (I0 L0 : Nat → Nat → Int) (e31 : I0 179 31 = wb) : ∀ (m i : Nat) (x : Int) (v : q_V) (D tp : Nat) (I L : Nat → Nat → Int), i + m = n → q_Km I L FA nl R ru to lo nr RD v → L 179 47 = x → q_Rk nr RD (q_vr v) → q_Nk R (q_vN v) D → q_Hk R (q_vN v) (q_vH v) (q_vn v) (q_vl v) → D + m ≤ 9999 → x_fr q_fDm I0 I → q_Lp L0 L → (∀ I' L' tp', x_fr q_fDm I0 I' → q_Lp L0 L' → q_Km I' L' FA nl R ru to lo nr RD (q_di R ru to lo nr RD wb m x v) → Q [x_i (q_vN (q_di R ru to lo nr RD wb m x v) 28)] (I', L', lp, tp')) → x_S g (k + 2) 249 Q 27 [x_r 179, x_i (n : Int), x_n, x_n, x_i (i : Int)] [] (I, L, lp, tp)
  | 0, i, x, v, D, tp, I, L => fun hi hK hx hr hN hH hD hf hl hq => by
    refine v_decadesM_L27 (k := k) ⟨⟨by omega, by omega⟩, ⟨by omega, by omega⟩, fun _ => ?_, fun c => by omega⟩
    rw [hK.2.2.2.2.2.2.2.1 28 (by omega)]
    exact hq I L tp hf hl hK
  | m + 1, i, x, v, D, tp, I, L => fun hi hK hx hr hN hH hD hf hl hq => by
    have hR : R ≤ 8 := by rcases hW.1 with h | h <;> omega
    have hp := hN.2.2.1 h0
    have e28 : q_vN v 28 = (D : Int) := hN.2.2.2.2.2.2.1
    have r4 := hr.1
    refine v_decadesM_L27 (k := k) ⟨⟨by omega, by omega⟩, ⟨by omega, by omega⟩, fun c => by omega, fun _ => ?_⟩
    refine x_le (show 1 ≤ k by omega) (m_begin (k := 0) hK (fun I1 f1 K1' => ⟨rfl, ?_⟩))
    have K1 := K1' (q_vl v)
    have g1 : x_fr q_fDm I0 I1 := x_fr_trans hf (x_fr_mono f1 rfl)
    have g31 : I1 179 31 = wb := (g1 _ _ rfl).trans e31
    have g24 : I1 190 24 = q_vN v 24 := K1.2.2.2.2.2.2.2.1 24 (by omega)
    have gR : I1 179 24 = (R : Int) := K1.1
    have gn : I1 179 26 = (nr : Int) := K1.2.2.2.2.2.1.1
    have w1 := q_dw_rg (q_x1 x) (show (0 : Int) < 10 by decide)
    have w2 := q_dw_rg (q_x1 (q_x1 x)) (show (0 : Int) < (R : Int) by omega)
    refine x_le (show 1 ≤ k by omega) (m_draw (k := 0) (by decide) (by decide) ⟨_, rfl, ?_⟩)
    rw [hx]
    have step : ∀ (p rh1 x1 : Int) (I2 L2 : Nat → Nat → Int), p = q_dp wb (q_x1 x) (q_vN v) → rh1 = q_dr nr x (q_vr v) → x1 = q_dx nr x → L2 179 47 = x1 → x_fr q_fDm I0 I2 → q_Lp L0 L2 → q_Km I2 L2 FA nl R ru to lo nr RD (q_up (q_up (q_vN v) 24 p) (16 + (q_dw (q_x1 (q_x1 x)) (R : Int)).toNat) 1, q_h1 (q_vH v) (q_vn v) (q_vN v), min 40 (q_vn v + 1), q_vl v, rh1) → x_X g k 233 [x_r 179] (I2, L2, lp, tp) (fun rv w9 => rv = [] ∧ x_S g (k + 2) 249 Q 27 [x_r 179, x_i (n : Int), x_n, x_n, x_i ((i : Int) + 1)] [] w9) := fun p rh1 x1 I2 L2 ep er ex ex2 f2 l2 K2 => by
      subst ep er
      obtain ⟨D', -, hL⟩ := q_Hk_d hH
      have eD' : D' = D := by have := hL.1; omega
      subst eD'
      have l1 := q_dN_Lr (wb := wb) (x := x) hR h0 hL
      refine m_pass (D := D') hk hW (q_dr_k hr) K2 (q_dN_k hR h0 hN) l1.2.1 (fun I3 L3 tp3 f3 l3 e3 K3 => ⟨rfl, ?_⟩)
      have kk := q_ds_k (lo := lo) (wb := wb) (x := x) hW h0 hr (show D' < 9999 by omega) hN hH
      exact m_dec_L hk hW h0 hwb hn I0 L0 e31 m (i + 1) (q_dx nr x) (q_ds R ru to lo nr RD wb x v) (D' + 1) tp3 I3 L3 (by omega) (K3 _) ((l3 179 47 (by decide)).trans (ex2.trans ex)) (q_dr_k hr) kk.1 kk.2 (by omega) (x_fr_trans f2 (x_fr_mono f3 rfl)) (fun a k h1 h2 => (l3 a k h1).trans (l2 a k h1 h2)) hq
    dsimp only
    rw [g31, g24, gR]
    have lx : ∀ y, q_Lp L0 (x_u L 179 47 y) := fun y a k h1 h2 => (x_u_ne _ _ (by omega)).trans (hl a k h1 h2)
    have common : ∀ p, p = q_dp wb (q_x1 x) (q_vN v) → x_X g k 248 [x_r 179, x_i (R : Int)] (x_u I1 190 24 p, x_u L 179 47 (q_x1 x), lp, tp) (fun rv w10 => ∃ z9, rv = [x_i z9] ∧ (0 ≤ 16 + z9 ∧ 16 + z9 < 210) ∧ x_rg (w10.1 179 26) ∧ (w10.1 179 26 ≤ 0 → x_X g k 233 [x_r 179] (x_u w10.1 190 (16 + z9).toNat 1, w10.2.1, w10.2.2.1, w10.2.2.2) (fun rv w14 => rv = [] ∧ x_S g (k + 2) 249 Q 27 [x_r 179, x_i (n : Int), x_n, x_n, x_i ((i : Int) + 1)] [] w14)) ∧ (0 < w10.1 179 26 → x_X g k 248 [x_r 179, x_i (w10.1 179 26)] (x_u w10.1 190 (16 + z9).toNat 1, w10.2.1, w10.2.2.1, w10.2.2.2) (fun rv w17 => ∃ z16, rv = [x_i z16] ∧ x_X g k 233 [x_r 179] (x_u w17.1 179 30 z16, w17.2.1, w17.2.2.1, w17.2.2.2) (fun rv w20 => rv = [] ∧ x_S g (k + 2) 249 Q 27 [x_r 179, x_i (n : Int), x_n, x_n, x_i ((i : Int) + 1)] [] w20)))) := fun p ep => by
      refine x_le (show 1 ≤ k by omega) (m_draw (k := 0) (by omega) (by omega) ⟨_, rfl, ?_⟩)
      rw [x_u_same]
      have en : (16 + q_dw (q_x1 (q_x1 x)) (R : Int)).toNat = 16 + (q_dw (q_x1 (q_x1 x)) (R : Int)).toNat := by omega
      have K2 := q_Km_N (q_Km_N K1 24 p) (16 + (q_dw (q_x1 (q_x1 x)) (R : Int)).toNat) 1
      have g2 : x_fr q_fDm I0 (x_u (x_u I1 190 24 p) 190 (16 + (q_dw (q_x1 (q_x1 x)) (R : Int)).toNat) 1) := x_fr_u (k := 16 + (q_dw (q_x1 (q_x1 x)) (R : Int)).toNat) (x_fr_u g1 rfl) (x_memI (190, 0, 210) (by decide) rfl (Nat.zero_le _) (by show _ < 210; omega))
      have en2 : (x_u I1 190 24 p) 179 26 = (nr : Int) := gn
      dsimp only
      rw [en, en2]
      refine ⟨⟨by omega, by omega⟩, ⟨by omega, by omega⟩, fun c => ?_, fun c => ?_⟩
      · exact step p (q_vr v) _ _ _ ep (if_pos (by omega)).symm (if_pos (by omega)).symm (x_u_same _ _ _ _) g2 (fun a k h1 h2 => (x_u_ne _ _ (by omega)).trans (lx _ a k h1 h2)) (q_Km_L K2 (fun _ => rfl))
      · refine x_le (show 1 ≤ k by omega) (m_draw (k := 0) (by omega) (by omega) ⟨_, rfl, ?_⟩)
        rw [x_u_same]
        dsimp only
        exact step p _ _ _ _ ep (if_neg (by omega)).symm (if_neg (by omega)).symm (x_u_same _ _ _ _) (x_fr_u g2 rfl) (fun a k h1 h2 => (x_u_ne _ _ (by omega)).trans ((x_u_ne _ _ (by omega)).trans (lx _ a k h1 h2))) (q_Km_L (q_Km_rh K2 _) (fun _ => rfl))
    refine ⟨⟨by omega, by omega⟩, ⟨by omega, by omega⟩, fun c => ⟨⟨by omega, by omega⟩, ?_⟩, fun c => ⟨⟨by omega, by omega⟩, ?_⟩⟩
    · refine common _ ?_
      unfold q_dp
      rw [if_neg (by omega)]
    · refine common _ ?_
      unfold q_dp
      rw [if_pos c]
theorem m_decades {g : x_G} {k : Nat} {Q : x_Q} {I L : Nat → Nat → Int} {FA : Nat → q_AV} {lp tp nl R : Nat} {ru to : Nat → Int} {lo : Option q_F6} {nr D : Nat} {RD : Nat → Nat → Int} {wb : Int} {v : q_V} (hk : 100 ≤ k) (hW : q_Wo R ru to) (hwb : 0 ≤ wb ∧ wb ≤ 9) (e31 : I 179 31 = wb) (hr : q_Rk nr RD (q_vr v)) (hK : q_Km I L FA nl R ru to lo nr RD v) (hN : q_Nk R (q_vN v) D) (hH : q_Hk R (q_vN v) (q_vH v) (q_vn v) (q_vl v)) {n s : Int} (hn : x_rg n) (q0 : ¬ (¬ R = 0 ∧ 1 ≤ n ∧ n ≤ 60 ∧ (D : Int) + n ≤ 9999) → Q [x_i (-1)] (x_u I 179 0 0, L, lp, tp)) (q1 : ¬ R = 0 → 1 ≤ n → n ≤ 60 → (D : Int) + n ≤ 9999 → ∀ I' L' tp', x_fr q_fDm I I' → q_Lp L L' → q_Km I' L' FA nl R ru to lo nr RD (q_di R ru to lo nr RD wb n.toNat s v) → Q [x_i (q_vN (q_di R ru to lo nr RD wb n.toNat s v) 28)] (I', L', lp, tp')) : x_X g (k + 2) 249 [x_r 179, x_i n, x_l s] (I, L, lp, tp) Q := by
  have hR : R ≤ 8 := by rcases hW.1 with h | h <;> omega
  have e24 : I 179 24 = (R : Int) := hK.1
  have e28 : I 190 28 = (D : Int) := (hK.2.2.2.2.2.2.2.1 28 (by omega)).trans hN.2.2.2.2.2.2.1
  have h8 := hN.2.2.2.2.2.2.2.1
  refine v_decadesM (k := k) ?_
  rw [e24, e28]
  refine ⟨⟨by omega, by omega⟩, fun c => q0 (by omega), fun c => ⟨hn, fun c1 => ⟨⟨by omega, by omega⟩, fun c3 => ?_, fun c3 => q0 (by omega)⟩, fun c1 => q0 (by omega)⟩⟩
  obtain ⟨n', rfl⟩ := Int.eq_ofNat_of_zero_le (show 0 ≤ n by omega)
  exact m_dec_L (n := n') hk hW (by omega) hwb (by omega) I L e31 n' 0 s v D tp (x_u I 179 0 0) (x_u L 179 47 s) (by omega) (q_Km_L (q_Km_0 hK) (fun _ => rfl)) (x_u_same _ _ _ _) hr hN hH (by omega) (x_fr_u (x_fr_refl _ _) rfl) (fun a k h1 h2 => x_u_ne _ _ (by omega)) (q1 (by omega) c1.1 c1.2 c3)
