/-! seat, happy -/
theorem q_mvbk (c : Nat) {S : List (Nat × Nat × Nat)} {I I5 : Nat → Nat → Int} {f t : Nat} (hft : ¬ f = t) (h : x_fr S (x_u (x_u I c f (I c f - 1)) c t ((x_u I c f (I c f - 1)) c t + 1)) I5) (hm : ∀ k, x_mem S c k = false) : x_fr S I (x_u (x_u I5 c f (I5 c f + 1)) c t ((x_u I5 c f (I5 c f + 1)) c t - 1)) := by
  intro a k ha
  have h5 := fun k => h c k (hm k)
  have ef : I5 c f = I c f - 1 := by rw [h5 f, x_u_ne _ _ (by omega), x_u_same]
  have et : I5 c t = I c t + 1 := by rw [h5 t, x_u_same, x_u_ne _ _ (by omega)]
  by_cases e1 : a = c ∧ k = t
  · rw [e1.1, e1.2, x_u_same, x_u_ne _ _ (by omega), et]; omega
  · rw [x_u_ne _ _ e1]
    by_cases e2 : a = c ∧ k = f
    · rw [e2.1, e2.2, x_u_same, ef]; omega
    · rw [x_u_ne _ _ e2, h a k ha, x_u_ne _ _ e1, x_u_ne _ _ e2]
def q_ymv (y : q_Y) (f t : Nat) : q_Y := (q_yR y, q_yru y, q_yto y, q_ylo y, q_ypa y, q_up (q_up (q_ywk y) f (q_ywk y f - 1)) t (q_ywk y t + 1))
def q_zmv (z : q_Z) (f t : Nat) : q_Z := (q_ymv (q_zy z) f t, q_zr z, q_zd z, q_zh z, q_zc z)
theorem q_zmv_k {z : q_Z} (hZ : q_Zk z) {f t : Nat} (hf : f < q_yR (q_zy z)) (ht : t < q_yR (q_zy z)) (h0 : ¬ q_ywk (q_zy z) f = 0) (h9 : q_ywk (q_zy z) t < 9) : q_Zk (q_zmv z f t) := by
  obtain ⟨⟨y1, y2, y3⟩, h2, h3, h4, h5⟩ := hZ
  refine ⟨⟨y1, y2, fun r hr => ?_⟩, h2, h3, h4, h5⟩
  have a1 := y3 r hr
  have a2 := y3 f hf
  have a3 := y3 t ht
  show 0 ≤ q_up (q_up (q_ywk (q_zy z)) f (q_ywk (q_zy z) f - 1)) t (q_ywk (q_zy z) t + 1) r ∧ q_up (q_up (q_ywk (q_zy z)) f (q_ywk (q_zy z) f - 1)) t (q_ywk (q_zy z) t + 1) r ≤ 9
  unfold q_up
  split
  · omega
  · split <;> omega
theorem q_up_eq {f g : Nat → Int} {k r : Nat} {v v' : Int} (h : f r = g r) (hv : v = v') : q_up f k v r = q_up g k v' r := by unfold q_up; rw [h, hv]
theorem q_mv_wk {I : Nat → Nat → Int} {c R : Nat} {wk : Nat → Int} (h : ∀ r, r < R → I c r = wk r) {f t : Nat} (hf : f < R) (ht : t < R) (hft : ¬ f = t) : ∀ r, r < R → (x_u (x_u I c f (I c f - 1)) c t ((x_u I c f (I c f - 1)) c t + 1)) c r = q_up (q_up wk f (wk f - 1)) t (wk t + 1) r := by
  intro r hr
  unfold q_up
  rw [x_u_eq, x_u_eq, x_u_eq]
  by_cases e1 : r = t
  · rw [if_pos ⟨rfl, e1⟩, if_neg (by omega), if_pos e1, h t ht]
  · rw [if_neg (fun z => e1 z.2), if_neg e1]
    by_cases e2 : r = f
    · rw [if_pos ⟨rfl, e2⟩, if_pos e2, h f hf]
    · rw [if_neg (fun z => e2 z.2), if_neg e2, h r hr]
def q_hm (z : q_Z) (f t : Nat) : Int := if f = t ∨ q_ywk (q_zy z) f = 0 ∨ 9 ≤ q_ywk (q_zy z) t then -1 else q_so (q_zs (q_zmv z f t))
theorem q_hm_rg {z : q_Z} (hZ : q_Zk z) {f t : Nat} (hf : f < q_yR (q_zy z)) (ht : t < q_yR (q_zy z)) : -1 ≤ q_hm z f t ∧ q_hm z f t ≤ 60 ∧ (¬ (f = t ∨ q_ywk (q_zy z) f = 0 ∨ 9 ≤ q_ywk (q_zy z) t) → 0 ≤ q_hm z f t) := by
  unfold q_hm
  by_cases e : f = t ∨ q_ywk (q_zy z) f = 0 ∨ 9 ≤ q_ywk (q_zy z) t
  · rw [if_pos e]; exact ⟨by omega, by omega, fun h => absurd e h⟩
  · rw [if_neg e]
    obtain ⟨-, -, s3, s4, s5, s6, s7, -⟩ := q_zs_ok (q_zmv_k hZ hf ht (by omega) (by omega))
    exact ⟨by omega, by omega, fun _ => by omega⟩
theorem s_hotIf {g : x_G} {k : Nat} {Q : x_Q} {I L : Nat → Nat → Int} {lp tp : Nat} {z : q_Z} (hZ : q_Zk z) (hc : q_ZC I lp z) {f t : Nat} (hf : f < q_yR (q_zy z)) (ht : t < q_yR (q_zy z)) (hq : ∀ I', x_fr q_fK I I' → Q [x_i (q_hm z f t)] (I', L, lp, tp)) : x_X g (k + 13) 165 [x_r 1, x_i (f : Int), x_i (t : Int)] (I, L, lp, tp) Q := by
  have hR := q_ZR hZ
  have wf := hZ.1.2.2 f hf
  have wt := hZ.1.2.2 t ht
  have e19f : I 19 f = q_ywk (q_zy z) f := hc.1.2.2.2 f hf
  have e19t : I 19 t = q_ywk (q_zy z) t := hc.1.2.2.2 t ht
  have out : ∀ I' v, x_fr q_fK I I' → v = q_hm z f t → Q [x_i v] (I', L, lp, tp) := fun I' v f e => by rw [e]; exact hq I' f
  unfold q_hm at out
  refine v_hotIf (k := k + 12) ?_
  rw [show ((f : Int)).toNat = f by omega, show ((t : Int)).toNat = t by omega]
  refine ⟨⟨by omega, by omega⟩, ⟨by omega, by omega⟩, fun q => out _ _ (x_fr_refl _ _) (by rw [if_pos (by omega)]), fun q => ⟨⟨by omega, by omega⟩, by rw [e19f]; exact ⟨by omega, by omega⟩, fun q2 => out _ _ (x_fr_refl _ _) (by rw [if_pos (by rw [e19f] at q2; omega)]), fun q2 => ⟨⟨by omega, by omega⟩, by rw [e19t]; exact ⟨by omega, by omega⟩, fun q3 => ?_, fun q3 => out _ _ (x_fr_refl _ _) (by rw [if_pos (by rw [e19t] at q3; omega)])⟩⟩⟩
  have hft : ¬ f = t := by omega
  rw [e19f] at q2
  rw [e19t] at q3
  have hZ' := q_zmv_k hZ hf ht q2 q3
  obtain ⟨⟨h1, h1b, h1c, h1d⟩, h2, h3, h4, h5⟩ := hc
  have hwk := q_mv_wk h1d hf ht hft
  have hc' : q_ZC (x_u (x_u I 19 f (I 19 f - 1)) 19 t ((x_u I 19 f (I 19 f - 1)) 19 t + 1)) lp (q_zmv z f t) := by
    refine ⟨⟨h1, ?_, h1c, hwk⟩, q_Hc_ag h2 (fun a k hm => ?_), h3, h4, h5⟩
    · exact q_Lc_ag h1b (fun a k hm => by
        rw [x_u_ne _ _ (fun e => ?_), x_u_ne _ _ (fun e => ?_)]
        · rw [e.1] at hm; exact absurd hm (by cases hh : x_mem q_dLc 19 k with
            | false => simp
            | true =>
              obtain ⟨u, u1, u2, -⟩ := (x_mem_iff _ _ _).mp hh
              simp at u1
              rcases u1 with rfl | rfl | rfl | rfl | rfl | rfl | rfl | rfl <;> simp at u2)
        · rw [e.1] at hm; exact absurd hm (by cases hh : x_mem q_dLc 19 k with
            | false => simp
            | true =>
              obtain ⟨u, u1, u2, -⟩ := (x_mem_iff _ _ _).mp hh
              simp at u1
              rcases u1 with rfl | rfl | rfl | rfl | rfl | rfl | rfl | rfl <;> simp at u2))
    · have : a ≠ 19 := by
        intro e
        subst e
        obtain ⟨u, u1, u2, -⟩ := (x_mem_iff _ _ _).mp hm
        simp at u1
        rcases u1 with rfl | rfl | rfl | rfl | rfl <;> simp at u2
      rw [x_u_ne _ _ (by omega), x_u_ne _ _ (by omega)]
  refine s_goRound hZ' hc' (fun I' f' c' W' => ⟨rfl, ?_⟩)
  have e10 := W'.2.2.2.1
  dsimp only
  rw [e10]
  exact out _ _ (q_mvbk 19 hft f' (fun k => rfl)) (by rw [if_neg (by omega)])
def q_sti (z : q_Z) (a : Nat) : Nat → Nat → Int × Int → Int × Int
  | 0, _, p => p
  | m + 1, b, p => q_sti z a m (b + 1) (if p.2 < q_hm z a b then (10 * (a : Int) + (b : Int), q_hm z a b) else p)
def q_sto (z : q_Z) : Nat → Nat → Int × Int → Int × Int
  | 0, _, p => p
  | m + 1, a, p => q_sto z m (a + 1) (q_sti z a (q_yR (q_zy z)) 0 p)
def q_aSeat (z : q_Z) (w : Int) : Int := if ¬ q_yR (q_zy z) = 0 ∧ q_bit w then (if w = 0 then (q_sto z (q_yR (q_zy z)) 0 (-1, -1)).1 else (q_sto z (q_yR (q_zy z)) 0 (-1, -1)).2) else -1
def q_pok (p : Int × Int) : Prop := (p.1 = -1 ∧ p.2 = -1) ∨ ((0 ≤ p.1 ∧ p.1 ≤ 100) ∧ 0 ≤ p.2 ∧ p.2 ≤ 60)
theorem q_pok_st {z : q_Z} (hZ : q_Zk z) {a b : Nat} (ha : a < q_yR (q_zy z)) (hb : b < q_yR (q_zy z)) {p : Int × Int} (hp : q_pok p) : q_pok (if p.2 < q_hm z a b then (10 * (a : Int) + (b : Int), q_hm z a b) else p) := by
  have hR := q_ZR hZ
  have hr := q_hm_rg hZ ha hb
  unfold q_pok at hp ⊢
  by_cases e : p.2 < q_hm z a b
  · rw [if_pos e]; dsimp only; omega
  · rw [if_neg e]; exact hp
theorem c_sti_L {g : x_G} {k : Nat} {Q : x_Q} {L : Nat → Nat → Int} {lp tp : Nat} {z : q_Z} (hZ : q_Zk z) {w : Int} {a : Nat} (ha : a < q_yR (q_zy z)) (I0 : Nat → Nat → Int) : ∀ (m b : Nat) (p : Int × Int) (I : Nat → Nat → Int), b + m = q_yR (q_zy z) → q_pok p → x_fr q_fK I0 I → q_ZC I lp z → (∀ I', x_fr q_fK I0 I' → q_ZC I' lp z → q_pok (q_sti z a m b p) → x_S g (k + 15) 164 Q 14 [x_r 1, x_i w, x_i (q_sti z a m b p).1, x_i (q_sti z a m b p).2, x_i ((a : Int) + 1), x_n, x_n] [] (I', L, lp, tp)) → x_S g (k + 15) 164 Q 21 [x_r 1, x_i w, x_i p.1, x_i p.2, x_i (a : Int), x_i (b : Int), x_n] [] (I, L, lp, tp)
  | 0, b, p, I, hm, hp, f, hc, hq => by
    have hR := q_ZR hZ
    refine v_seat_L21 (k := k + 13) ?_
    rw [q_ZC_R hc]
    exact ⟨⟨by omega, by omega⟩, ⟨by omega, by omega⟩, fun _ => hq I f hc hp, fun q => by omega⟩
  | m + 1, b, p, I, hm, hp, f, hc, hq => by
    have hR := q_ZR hZ
    have hb : b < q_yR (q_zy z) := by omega
    have hr := q_hm_rg hZ ha hb
    have hp2 := q_pok_st hZ ha hb hp
    rw [q_sti] at hq
    refine v_seat_L21 (k := k + 13) ?_
    rw [q_ZC_R hc]
    refine ⟨⟨by omega, by omega⟩, ⟨by omega, by omega⟩, fun q => by omega, fun _ => ?_⟩
    refine s_hotIf hZ hc ha hb (fun I' f' => ⟨_, rfl, ⟨by omega, by omega⟩, by unfold q_pok at hp; constructor <;> omega, fun c => ?_, fun c => ?_⟩)
    · rw [if_neg (by omega)] at hq hp2
      exact c_sti_L hZ ha I0 m (b + 1) p I' (by omega) hp2 (x_fr_trans f f') (q_ZC_fK hZ hc f') hq
    · rw [if_pos c] at hq hp2
      exact c_sti_L hZ ha I0 m (b + 1) (10 * (a : Int) + (b : Int), q_hm z a b) I' (by omega) hp2 (x_fr_trans f f') (q_ZC_fK hZ hc f') hq
theorem c_sto_L {g : x_G} {k : Nat} {Q : x_Q} {L : Nat → Nat → Int} {lp tp : Nat} {z : q_Z} (hZ : q_Zk z) {w : Int} (hw : x_rg w) (I0 : Nat → Nat → Int) : ∀ (m a : Nat) (p : Int × Int) (I : Nat → Nat → Int), a + m = q_yR (q_zy z) → q_pok p → x_fr q_fK I0 I → q_ZC I lp z → (∀ I', x_fr q_fK I0 I' → Q [x_i (if w = 0 then (q_sto z m a p).1 else (q_sto z m a p).2)] (I', L, lp, tp)) → x_S g (k + 15) 164 Q 14 [x_r 1, x_i w, x_i p.1, x_i p.2, x_i (a : Int), x_n, x_n] [] (I, L, lp, tp)
  | 0, a, p, I, hm, hp, f, hc, hq => by
    have hR := q_ZR hZ
    have := hq I f
    rw [q_sto] at this
    refine v_seat_L14 (k := k + 13) ?_
    rw [q_ZC_R hc]
    refine ⟨⟨by omega, by omega⟩, ⟨by omega, by omega⟩, fun _ => ⟨hw, fun c => ?_, fun c => ?_⟩, fun q => by omega⟩
    · rw [if_neg c] at this; exact this
    · rw [if_pos c] at this; exact this
  | m + 1, a, p, I, hm, hp, f, hc, hq => by
    have hR := q_ZR hZ
    rw [q_sto] at hq
    refine v_seat_L14 (k := k + 13) ?_
    rw [q_ZC_R hc]
    refine ⟨⟨by omega, by omega⟩, ⟨by omega, by omega⟩, fun q => by omega, fun _ => ?_⟩
    exact c_sti_L hZ (by omega) I0 (q_yR (q_zy z)) 0 p I (Nat.zero_add _) hp f hc (fun I' f' c' hp' => c_sto_L hZ hw I0 m (a + 1) _ I' (by omega) hp' f' c' hq)
theorem c_seat {g : x_G} {k : Nat} {Q : x_Q} {I L : Nat → Nat → Int} {lp tp : Nat} {z : q_Z} (hZ : q_Zk z) (hc : q_ZC I lp z) {w : Int} (hw : x_rg w) (hq : ∀ I', x_fr q_fK I I' → Q [x_i (q_aSeat z w)] (I', L, lp, tp)) : x_X g (k + 15) 164 [x_r 1, x_i w] (I, L, lp, tp) Q := by
  have hR := q_ZR hZ
  unfold q_aSeat at hq
  refine v_seat (k := k + 13) ?_
  rw [q_ZC_R hc]
  have no : ¬ (¬ q_yR (q_zy z) = 0 ∧ q_bit w) → Q [x_i (-1)] (I, L, lp, tp) := fun h => by have := hq I (x_fr_refl _ _); rw [if_neg h] at this; exact this
  have go : ¬ (q_yR (q_zy z) : Int) = 0 → q_bit w → x_S g (k + 13 + 2) 164 Q 14 [x_r 1, x_i w, x_i (-1), x_i (-1), x_i 0, x_n, x_n] [] (I, L, lp, tp) := by
    intro h0 hb
    refine c_sto_L hZ hw I (q_yR (q_zy z)) 0 (-1, -1) I (Nat.zero_add _) (Or.inl ⟨rfl, rfl⟩) (x_fr_refl _ _) hc (fun I' f' => ?_)
    have := hq I' f'
    rw [if_pos ⟨by omega, hb⟩] at this
    exact this
  exact ⟨⟨by omega, by omega⟩, fun q => ⟨hw, fun c => go q (Or.inl c), fun c => ⟨fun c2 => no (fun h => by have := h.2; unfold q_bit at this; omega), fun c2 => go q (Or.inr c2)⟩⟩, fun q => no (by omega)⟩
theorem q_ZM_mv {I L : Nat → Nat → Int} {z : q_Z} {FA : Nat → q_AV} {nl : Nat} (hR : q_yR (q_zy z) ≤ 8) (h : q_ZM I L z FA nl) {f t : Nat} (hf : f < q_yR (q_zy z)) (ht : t < q_yR (q_zy z)) (hft : ¬ f = t) : q_ZM (x_u (x_u I 190 f (I 190 f - 1)) 190 t ((x_u I 190 f (I 190 f - 1)) 190 t + 1)) L (q_zmv z f t) FA nl := by
  obtain ⟨⟨y1, y2, y3, y4, y5, y6, y7⟩, h2, h3, h4, h5⟩ := h
  have e : ∀ k, 8 ≤ k → (x_u (x_u I 190 f (I 190 f - 1)) 190 t ((x_u I 190 f (I 190 f - 1)) 190 t + 1)) 190 k = I 190 k := fun k hk => by rw [x_u_ne _ _ (by omega), x_u_ne _ _ (by omega)]
  exact ⟨⟨y1, y2, y3, (e 24 (by decide)).trans y4, q_mv_wk y5 hf ht hft, q_LM_u (q_LM_u y6 (by decide)) (by decide), y7⟩, h2, fun r hr => (e (16 + r) (by omega)).trans (h3 r hr), (e 25 (by decide)).trans h4, (e 26 (by decide)).trans h5⟩
def q_mok (p : Int × Int) (v2 v3 : Int) : Prop := v2 = p.1 ∧ (p.1 = -1 ∨ v3 = p.2)
theorem m_sti_L {g : x_G} {k : Nat} {Q : x_Q} {lp : Nat} {z : q_Z} {FA : Nat → q_AV} {nl : Nat} (hk : 97 ≤ k) (hZ : q_Zk z) {w : Int} {a : Nat} (ha : a < q_yR (q_zy z)) (I0 L0 : Nat → Nat → Int) : ∀ (m b : Nat) (p : Int × Int) (v2 v3 : Int) (I L : Nat → Nat → Int) (tp : Nat), b + m = q_yR (q_zy z) → q_pok p → q_mok p v2 v3 → x_fr q_fE I0 I → q_Lo L0 L → q_ZM I L z FA nl → (∀ u2 u3 I' L' tp', x_fr q_fE I0 I' → q_Lo L0 L' → q_ZM I' L' z FA nl → q_pok (q_sti z a m b p) → q_mok (q_sti z a m b p) u2 u3 → x_S g (k + 2) 258 Q 20 [x_r 179, x_i w, x_i u2, x_i u3, x_i ((a : Int) + 1), x_n] [] (I', L', lp, tp')) → x_S g (k + 2) 258 Q 26 [x_r 179, x_i w, x_i v2, x_i v3, x_i (a : Int), x_i (b : Int)] [] (I, L, lp, tp)
  | 0, b, p, v2, v3, I, L, tp, hm, hp, hmk, f, hL, hc, hq => by
    have hR := q_ZR hZ
    refine v_seatM_L26 ?_
    rw [hc.1.1]
    exact ⟨⟨by omega, by omega⟩, ⟨by omega, by omega⟩, fun _ => hq v2 v3 I L tp f hL hc hp hmk, fun q => by omega⟩
  | m + 1, b, p, v2, v3, I, L, tp, hm, hp, hmk, f, hL, hc, hq => by
    have hR := q_ZR hZ
    have hb : b < q_yR (q_zy z) := by omega
    have hr := q_hm_rg hZ ha hb
    have hp2 := q_pok_st hZ ha hb hp
    have wa := hZ.1.2.2 a ha
    have wb := hZ.1.2.2 b hb
    have ea : I 190 a = q_ywk (q_zy z) a := hc.1.2.2.2.2.1 a ha
    have eb : I 190 b = q_ywk (q_zy z) b := hc.1.2.2.2.2.1 b hb
    rw [q_sti] at hq
    obtain ⟨hm1, hm2⟩ := hmk
    have skip : (a = b ∨ q_ywk (q_zy z) a = 0 ∨ 9 ≤ q_ywk (q_zy z) b) → x_S g (k + 2) 258 Q 26 [x_r 179, x_i w, x_i v2, x_i v3, x_i (a : Int), x_i ((b : Int) + 1)] [] (I, L, lp, tp) := by
      intro h
      have e : q_hm z a b = -1 := by unfold q_hm; rw [if_pos h]
      have hlt : ¬ p.2 < q_hm z a b := by unfold q_pok at hp; omega
      rw [if_neg hlt] at hq hp2
      exact m_sti_L hk hZ ha I0 L0 m (b + 1) p v2 v3 I L tp (by omega) hp2 ⟨hm1, hm2⟩ f hL hc hq
    refine v_seatM_L26 ?_
    rw [hc.1.1, show ((a : Int)).toNat = a by omega, show ((b : Int)).toNat = b by omega]
    refine ⟨⟨by omega, by omega⟩, ⟨by omega, by omega⟩, fun q => by omega, fun _ => ⟨⟨by omega, by omega⟩, fun c => skip (by omega), fun c => ⟨⟨by omega, by omega⟩, by rw [ea]; exact ⟨by omega, by omega⟩, fun c2 => skip (by rw [ea] at c2; omega), fun c2 => ⟨⟨by omega, by omega⟩, by rw [eb]; exact ⟨by omega, by omega⟩, fun c3 => ?_, fun c3 => skip (by rw [eb] at c3; omega)⟩⟩⟩⟩
    rw [ea] at c2
    rw [eb] at c3
    have hab : ¬ a = b := by omega
    have hZ' := q_zmv_k hZ ha hb c2 (by omega)
    have hnot : ¬ (a = b ∨ q_ywk (q_zy z) a = 0 ∨ 9 ≤ q_ywk (q_zy z) b) := by omega
    have e : q_hm z a b = q_so (q_zs (q_zmv z a b)) := by unfold q_hm; rw [if_neg hnot]
    have hr0 := hr.2.2 hnot
    refine m_goNow hk hZ' (q_ZM_mv hR hc ha hb hab) (fun I' L' tp' f' l' m' W' => ⟨rfl, ?_⟩)
    have e40 : I' 179 40 = q_hm z a b := W'.1.2.2.2.2.2.1.trans e.symm
    have fr : x_fr q_fD I (x_u (x_u I' 190 a (I' 190 a + 1)) 190 b ((x_u I' 190 a (I' 190 a + 1)) 190 b - 1)) := q_mvbk 190 hab f' (fun k => rfl)
    have hLM : q_LM (x_u (x_u I' 190 a (I' 190 a + 1)) 190 b ((x_u I' 190 a (I' 190 a + 1)) 190 b - 1)) L' FA nl := q_LM_u (q_LM_u m'.1.2.2.2.2.2.1 (by decide)) (by decide)
    have hc2 : q_ZM (x_u (x_u I' 190 a (I' 190 a + 1)) 190 b ((x_u I' 190 a (I' 190 a + 1)) 190 b - 1)) L' z FA nl := q_ZM_fD hc fr (q_Ym_eq hc.1 (fr _ _ rfl) (fr _ _ rfl) (fun k => fr 184 k rfl) (fun k => fr 186 k rfl) (fun k => fr 190 k rfl) hLM)
    have fr2 : x_fr q_fE I0 (x_u (x_u I' 190 a (I' 190 a + 1)) 190 b ((x_u I' 190 a (I' 190 a + 1)) 190 b - 1)) := x_fr_trans f (x_fr_mono fr rfl)
    have hL2 : q_Lo L0 L' := fun x y hx => (l' x y hx).trans (hL x y hx)
    dsimp only
    rw [e40]
    have take : p.2 < q_hm z a b → x_S g (k + 2) 258 Q 26 [x_r 179, x_i w, x_i (10 * (a : Int) + (b : Int)), x_i (q_hm z a b), x_i (a : Int), x_i ((b : Int) + 1)] [] (x_u (x_u I' 190 a (I' 190 a + 1)) 190 b ((x_u I' 190 a (I' 190 a + 1)) 190 b - 1), L', lp, tp') := by
      intro h
      rw [if_pos h] at hq hp2
      exact m_sti_L hk hZ ha I0 L0 m (b + 1) _ _ _ _ L' tp' (by omega) hp2 ⟨rfl, Or.inr rfl⟩ fr2 hL2 hc2 hq
    have pr : p.1 = -1 → p.2 = -1 := by unfold q_pok at hp; omega
    refine ⟨by rw [hm1]; unfold q_pok at hp; constructor <;> omega, fun c4 => take (by have := pr (by omega); omega), fun c4 => ?_⟩
    have hv3 : v3 = p.2 := by rcases hm2 with h | h <;> omega
    rw [hv3]
    refine ⟨⟨by omega, by omega⟩, by unfold q_pok at hp; constructor <;> omega, fun c5 => take c5, fun c5 => ?_⟩
    rw [if_neg (by omega)] at hq hp2
    exact m_sti_L hk hZ ha I0 L0 m (b + 1) p v2 p.2 _ L' tp' (by omega) hp2 ⟨hm1, Or.inr rfl⟩ fr2 hL2 hc2 hq
theorem m_sto_L {g : x_G} {k : Nat} {Q : x_Q} {lp : Nat} {z : q_Z} {FA : Nat → q_AV} {nl : Nat} (hk : 97 ≤ k) (hZ : q_Zk z) {w : Int} (hw : x_rg w) (I0 L0 : Nat → Nat → Int) : ∀ (m a : Nat) (p : Int × Int) (v2 v3 : Int) (I L : Nat → Nat → Int) (tp : Nat), a + m = q_yR (q_zy z) → q_pok p → q_mok p v2 v3 → x_fr q_fE I0 I → q_Lo L0 L → q_ZM I L z FA nl → (∀ I' L' tp', x_fr q_fE I0 I' → q_Lo L0 L' → q_LM I' L' FA nl → Q [x_i (if w = 0 then (q_sto z m a p).1 else (q_sto z m a p).2)] (I', L', lp, tp')) → x_S g (k + 2) 258 Q 20 [x_r 179, x_i w, x_i v2, x_i v3, x_i (a : Int), x_n] [] (I, L, lp, tp)
  | 0, a, p, v2, v3, I, L, tp, hm, hp, hmk, f, hL, hc, hq => by
    have hR := q_ZR hZ
    have := hq I L tp f hL hc.1.2.2.2.2.2.1
    rw [q_sto] at this
    obtain ⟨hm1, hm2⟩ := hmk
    refine v_seatM_L20 ?_
    rw [hc.1.1]
    refine ⟨⟨by omega, by omega⟩, ⟨by omega, by omega⟩, fun _ => ⟨by rw [hm1]; unfold q_pok at hp; constructor <;> omega, fun c => ?_, fun c => ⟨hw, fun c2 => ?_, fun c2 => ?_⟩⟩, fun q => by omega⟩
    · have h2 : p.2 = -1 := by unfold q_pok at hp; omega
      rw [show p.1 = -1 by omega, h2] at this
      rw [c]
      by_cases e : w = 0
      · rw [if_pos e] at this; exact this
      · rw [if_neg e] at this; exact this
    · rw [if_neg c2] at this
      rw [show v3 = p.2 by rcases hm2 with h | h <;> omega]; exact this
    · rw [if_pos c2] at this
      rw [hm1]; exact this
  | m + 1, a, p, v2, v3, I, L, tp, hm, hp, hmk, f, hL, hc, hq => by
    have hR := q_ZR hZ
    rw [q_sto] at hq
    refine v_seatM_L20 ?_
    rw [hc.1.1]
    refine ⟨⟨by omega, by omega⟩, ⟨by omega, by omega⟩, fun q => by omega, fun _ => ?_⟩
    exact m_sti_L hk hZ (by omega) I0 L0 (q_yR (q_zy z)) 0 p v2 v3 I L tp (Nat.zero_add _) hp hmk f hL hc (fun u2 u3 I' L' tp' f' l' c' hp' hm' => m_sto_L hk hZ hw I0 L0 m (a + 1) _ u2 u3 I' L' tp' (by omega) hp' hm' f' l' c' hq)
theorem m_seat {g : x_G} {k : Nat} {Q : x_Q} {I L : Nat → Nat → Int} {lp tp : Nat} {z : q_Z} {FA : Nat → q_AV} {nl : Nat} (hk : 110 ≤ k) (hZ : q_Zk z) (hm : q_ZM I L z FA nl) {w : Int} (hw : x_rg w) (hq : ∀ I' L' tp', x_fr q_fE I I' → q_Lo L L' → q_LM I' L' FA nl → Q [x_i (q_aSeat z w)] (I', L', lp, tp')) : x_X g k 258 [x_r 179, x_i w] (I, L, lp, tp) Q := by
  obtain ⟨k, rfl⟩ : ∃ k', k = k' + 2 := ⟨k - 2, by omega⟩
  have hR := q_ZR hZ
  have hm0 := q_ZM_0 hm 0
  unfold q_aSeat at hq
  have no : ¬ (¬ q_yR (q_zy z) = 0 ∧ q_bit w) → Q [x_i (-1)] (x_u I 179 0 0, L, lp, tp) := fun h => by have := hq _ L tp (q_fE0 I 0) (fun _ _ _ => rfl) hm0.1.2.2.2.2.2.1; rw [if_neg h] at this; exact this
  refine v_seatM ?_
  rw [hm.1.1]
  refine ⟨⟨by omega, by omega⟩, fun q => no (by omega), fun q => ⟨hw, fun c => ?_, fun c => no (fun h => c (q_bit_in.mpr h.2))⟩⟩
  refine m_sto_L (by omega) hZ hw (x_u I 179 0 0) L (q_yR (q_zy z)) 0 (-1, -1) (-1) 0 _ L tp (Nat.zero_add _) (Or.inl ⟨rfl, rfl⟩) ⟨rfl, Or.inl rfl⟩ (x_fr_refl _ _) (fun _ _ _ => rfl) hm0 (fun I' L' tp' f' l' m' => ?_)
  have := hq I' L' tp' (x_fr_trans (q_fE0 I 0) f') l' m'
  rw [if_pos ⟨by omega, q_bit_in.mp c⟩] at this
  exact this
/-- happy: by round r, all doors open -/
def q_aHappy (y : q_Y) (rd : Nat → Int) (h c : Int) : Int := q_so (q_go y (q_s0 h c) (q_vis (q_yR y) 0 rd 8 0))
theorem c_happy {g : x_G} {k : Nat} {Q : x_Q} {I L : Nat → Nat → Int} {lp tp : Nat} {z : q_Z} (hZ : q_Zk z) (hc : q_ZC I lp z) {r : Int} (hr : x_rg r) {RD : Nat → Nat → Int} (hRD : ∀ w : Nat, (w : Int) < I 1 15 → ∀ x, x < 8 → I (150 + w) x = RD w x ∧ -1 ≤ RD w x ∧ RD w x < 8) (hq : ∀ I', x_fr q_fK I I' → Q [x_i (if ¬ q_yR (q_zy z) = 0 ∧ (0 ≤ r ∧ r < I 1 15) then q_aHappy (q_zy z) (RD r.toNat) (q_zh z) (q_zc z) else -1)] (I', L, lp, tp)) : x_X g (k + 15) 166 [x_r 1, x_i r] (I, L, lp, tp) Q := by
  have hR := q_ZR hZ
  obtain ⟨h1, ⟨h2, h2'⟩, h3, h4, h5⟩ := hc
  have no : ¬ (¬ q_yR (q_zy z) = 0 ∧ (0 ≤ r ∧ r < I 1 15)) → Q [x_i (-1)] (I, L, lp, tp) := fun h => by have := hq I (x_fr_refl _ _); rw [if_neg h] at this; exact this
  refine v_happy (k := k + 13) ?_
  rw [h1.1.1, h4]
  refine ⟨⟨by omega, by omega⟩, fun q => ⟨hr, fun q2 => no (by omega), fun q2 => ⟨⟨by omega, by omega⟩, fun q3 => no (by omega), fun q3 => ⟨⟨by omega, by omega⟩, ?_⟩⟩⟩, fun q => no (by omega)⟩
  obtain ⟨w, rfl⟩ := Int.eq_ofNat_of_zero_le q2
  have hw4 : w = 0 ∨ w = 1 ∨ w = 2 ∨ w = 3 := by omega
  have ex : x_r0 149 ((w : Int)).toNat = 150 + w := by rcases hw4 with rfl | rfl | rfl | rfl <;> rfl
  rw [ex]
  refine x_le (show k + 9 ≤ k + 13 by omega) (s_along (sh := 0) hZ.1 h1 (Or.inr ⟨by omega, hRD w q3⟩) (by decide) hZ.2.2.1 h5 hZ.2.2.2.1 (fun I' f' W' => ⟨rfl, ?_⟩))
  have e10 := W'.2.2.2.1
  dsimp only
  rw [e10]
  have := hq I' f'
  rw [if_pos ⟨by omega, q2, q3⟩] at this
  exact this
theorem m_happy {g : x_G} {k : Nat} {Q : x_Q} {I L : Nat → Nat → Int} {lp tp : Nat} {z : q_Z} {FA : Nat → q_AV} {nl : Nat} (hk : 110 ≤ k) (hZ : q_Zk z) (hm : q_ZM I L z FA nl) {r : Int} (hr : x_rg r) {RD : Nat → Nat → Int} {nr : Int} (hnr : I 179 26 = nr) (hn4 : 0 ≤ nr ∧ nr ≤ 4) (hRD : ∀ w : Nat, (w : Int) < nr → q_Rm I w (RD w)) (hq : ∀ I' L' tp', x_fr q_fE I I' → q_Lo L L' → q_LM I' L' FA nl → Q [x_i (if ¬ q_yR (q_zy z) = 0 ∧ (0 ≤ r ∧ r < nr) then q_aHappy (q_zy z) (RD r.toNat) (q_zh z) (q_zc z) else -1)] (I', L', lp, tp')) : x_X g k 282 [x_r 179, x_i r] (I, L, lp, tp) Q := by
  obtain ⟨k, rfl⟩ : ∃ k', k = k' + 2 := ⟨k - 2, by omega⟩
  have hR := q_ZR hZ
  have hm0 := q_ZM_0 hm 0
  have no : ¬ (¬ q_yR (q_zy z) = 0 ∧ (0 ≤ r ∧ r < nr)) → Q [x_i (-1)] (x_u I 179 0 0, L, lp, tp) := fun h => by have := hq _ L tp (q_fE0 I 0) (fun _ _ _ => rfl) hm0.1.2.2.2.2.2.1; rw [if_neg h] at this; exact this
  refine v_happyM ?_
  rw [hm.1.1, hnr]
  refine ⟨⟨by omega, by omega⟩, fun q => no (by omega), fun q => ⟨hr, fun q2 => no (by omega), fun q2 => ⟨⟨by omega, by omega⟩, fun q3 => no (by omega), fun q3 => ?_⟩⟩⟩
  obtain ⟨w, rfl⟩ := Int.eq_ofNat_of_zero_le q2
  refine m_goRound (by omega) hZ.1 hm0.1 (Or.inr ⟨w, rfl, by omega, q_Rm_eq (hRD w q3) (fun _ => rfl) (fun _ => rfl)⟩) (Or.inl ⟨rfl, rfl⟩) hm0.2.2.2.1 hm0.2.2.2.2 hZ.2.2.1 hZ.2.2.2.1 (fun I' L' tp' f' l' m' W' => ⟨rfl, ?_⟩)
  have e40 := W'.1.2.2.2.2.2.1
  dsimp only
  rw [e40]
  have := hq I' L' tp' (q_fE1 f') l' m'.2.2.2.2.2.1
  rw [if_pos ⟨by omega, q2, q3⟩] at this
  exact this
