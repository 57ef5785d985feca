/-! odds, by the reference -/
abbrev q_lsM (i goal : Nat) (h c n ch p : Int) (r : Nat) (st wb sum : Int) (w : Int) : List x_V := [x_r 179, x_i (i : Int), x_i (goal : Int), x_n, x_i h, x_i c, x_i n, x_i ch, x_i p, x_i (r : Int), x_i st, x_i wb, x_i sum, x_i w, x_n, x_n, x_n]
theorem m_oddsFrom {g : x_G} {lp : Nat} {z : q_Z} {FA : Nat → q_AV} {nl : Nat} (hZ : q_Zk z) {v n : Nat} (hv : v < 4) (hn : n ≤ 8) {goal : Nat} (hg : goal < q_yR (q_zy z)) {ch : Int} (hch : 0 ≤ ch ∧ ch ≤ 100) : ∀ (m i k : Nat) (f h c nn p : Int) (I L : Nat → Nat → Int) (tp : Nat) (Q : x_Q), i + m = n → 95 + 2 * m ≤ k → q_ZM I L z FA nl → I 179 30 = (v : Int) → I 189 v = (n : Int) → (∀ x, x < n → I 188 (8 * v + x) = q_zr z x ∧ 0 ≤ q_zr z x) → (f = -1 ∨ (0 ≤ f ∧ f < (q_yR (q_zy z) : Int))) → 0 ≤ h ∧ h ≤ 99 → 0 ≤ c ∧ c ≤ 60 → 0 ≤ nn ∧ nn ≤ (i : Int) → 0 ≤ p ∧ p ≤ 1000000 → (∀ I' L' tp', x_fr q_fC I I' → q_Lo L L' → q_LM I' L' FA nl → Q [x_i (q_od (q_zy z) goal ch (q_vis (q_yR (q_zy z)) (q_zd z) (q_zr z) m i) f h c nn p)] (I', L', lp, tp')) → x_X g k 275 [x_r 179, x_i (i : Int), x_i (goal : Int), x_i f, x_i h, x_i c, x_i nn, x_i ch, x_i p] (I, L, lp, tp) Q
  | 0, i, k, f, h, c, nn, p, I, L, tp, Q, hm, hk, hM, e30, e189, e188, hf, hh, hc, hnn, hp, hq => by
    obtain ⟨k, rfl⟩ : ∃ k', k = k' + 2 := ⟨k - 2, by omega⟩
    have := hq I L tp (x_fr_refl _ _) (fun _ _ _ => rfl) hM.1.2.2.2.2.2.1
    rw [q_vis, q_od] at this
    refine v_oddsFrom ?_
    rw [e30, show ((v : Int)).toNat = v by omega, e189]
    exact ⟨⟨by omega, by omega⟩, ⟨by omega, by omega⟩, ⟨by omega, by omega⟩, fun q => by omega, fun _ => this⟩
  | m + 1, i, k, f, h, c, nn, p, I, L, tp, Q, hm, hk, hM, e30, e189, e188, hf, hh, hc, hnn, hp, hq => by
    obtain ⟨k, rfl⟩ : ∃ k', k = k' + 2 := ⟨k - 2, by omega⟩
    have hR := q_ZR hZ
    obtain ⟨a1, a2⟩ := e188 i (by omega)
    have a3 := (hZ.2.2.2.2 i (by omega)).2
    obtain ⟨r, hr⟩ := Int.eq_ofNat_of_zero_le a2
    rw [hr] at a1 a3
    have hvis : q_vis (q_yR (q_zy z)) (q_zd z) (q_zr z) (m + 1) i = if (r < q_yR (q_zy z)) ∧ (q_zd z).testBit r = false then r :: q_vis (q_yR (q_zy z)) (q_zd z) (q_zr z) m (i + 1) else q_vis (q_yR (q_zy z)) (q_zd z) (q_zr z) m (i + 1) := by
      rw [q_vis, hr, show ((r : Int)).toNat = r by omega]
      by_cases e : (r < q_yR (q_zy z)) ∧ (q_zd z).testBit r = false
      · rw [if_pos e, if_pos ⟨⟨by omega, by omega⟩, e.2⟩]
      · rw [if_neg e, if_neg (fun h => e ⟨by omega, h.2⟩)]
    have e16 : r < q_yR (q_zy z) → I 190 (16 + (r : Int)).toNat = if (q_zd z).testBit r = true then 1 else 0 := fun h => by rw [show (16 + (r : Int)).toNat = 16 + r by omega]; exact hM.2.2.1 r h
    have keep : ∀ {I' L' : Nat → Nat → Int}, x_fr q_fC I I' → q_LM I' L' FA nl → q_ZM I' L' z FA nl ∧ I' 179 30 = (v : Int) ∧ I' 189 v = (n : Int) ∧ (∀ x, x < n → I' 188 (8 * v + x) = q_zr z x ∧ 0 ≤ q_zr z x) := by
      intro I' L' f' hL
      exact ⟨q_ZM_fD hM (x_fr_mono f' rfl) (q_Ym_eq hM.1 (f' _ _ rfl) (f' _ _ rfl) (fun k => f' 184 k rfl) (fun k => f' 186 k rfl) (fun k => f' 190 k rfl) hL), (f' _ _ rfl).trans e30, (f' 189 v rfl).trans e189, fun x hx => by rw [f' 188 _ rfl]; exact e188 x hx⟩
    have skip : ¬ ((r < q_yR (q_zy z)) ∧ (q_zd z).testBit r = false) → x_X g k 275 [x_r 179, x_i ((i : Int) + 1), x_i (goal : Int), x_i f, x_i h, x_i c, x_i nn, x_i ch, x_i p] (I, L, lp, tp) (fun rv w4 => ∃ z3, rv = [x_i z3] ∧ Q [x_i z3] w4) := by
      intro hs
      rw [hvis, if_neg hs] at hq
      exact m_oddsFrom hZ hv hn hg hch m (i + 1) k f h c nn p I L tp _ (by omega) (by omega) hM e30 e189 e188 hf hh hc ⟨by omega, by omega⟩ hp (fun I' L' tp' f' l' m' => ⟨_, rfl, hq I' L' tp' f' l' m'⟩)
    refine v_oddsFrom ?_
    rw [e30, show ((v : Int)).toNat = v by omega, e189, show (8 * (v : Int) + (i : Int)).toNat = 8 * v + i by omega, a1, hM.1.1]
    refine ⟨⟨by omega, by omega⟩, ⟨by omega, by omega⟩, ⟨by omega, by omega⟩, fun q => ⟨⟨by omega, by omega⟩, ⟨by omega, by omega⟩, ⟨by omega, by omega⟩, fun q2 => skip (fun h => by have := h.1; omega), fun q2 => ?_⟩, fun q => by omega⟩
    have hrR : r < q_yR (q_zy z) := by omega
    rw [e16 hrR]
    refine ⟨⟨by omega, by omega⟩, by split <;> decide, fun q3 => ?_, fun q3 => skip (fun h => by rw [h.2] at q3; simp at q3)⟩
    have hsb : (q_zd z).testBit r = false := by
      cases e : (q_zd z).testBit r with
      | false => rfl
      | true => rw [e] at q3; simp at q3
    rw [hvis, if_pos ⟨hrR, hsb⟩] at hq
    obtain ⟨w0, w1, w2⟩ := q_wb_rg hp hch
    obtain ⟨hst, m1, m2⟩ := q_ymi_rg hZ.1 hf hrR
    obtain ⟨t0, t3, t4, wk, r8⟩ := q_yto_rg hZ.1 hrR
    have hpa := hZ.1.2.1 (by omega)
    have hpo : 0 ≤ q_po (q_zy z) c r ∧ q_po (q_zy z) c r ≤ c := by unfold q_po; omega
    have hht : ∀ wb, 0 ≤ q_yht (q_zy z) h f r c nn wb ∧ q_yht (q_zy z) h f r c nn wb ≤ h := fun wb => q_ht_rg hh
    refine x_le (show 2 ≤ k by omega) (m_stepsTo (k := 0) hZ.1 hM.1.2.2.1 hf hrR ⟨_, rfl, w0, ?_⟩)
    -- one of the two ways: wobbling by wb, part pb; then the sum goes on
    have step : ∀ (wb pb : Int) (I1 L1 : Nat → Nat → Int) (tp1 : Nat) (K : x_Q), (0 ≤ wb ∧ wb ≤ 5) → (0 ≤ pb ∧ pb ≤ 1000000) → x_fr q_fC I I1 → q_Lo L L1 → q_LM I1 L1 FA nl → (∀ z5 I5 L5 tp5, x_fr q_fC I I5 → q_Lo L L5 → q_LM I5 L5 FA nl → z5 = max 0 (min 99 (q_v (q_yru (q_zy z)) (q_ylo (q_zy z)) (q_ymi (q_zy z) f r + wb) h (q_yto (q_zy z) (5 * r)) (q_yst (q_zy z) f r) c nn)) → K [x_i z5] (I5, L5, lp, tp5)) → x_X g k 228 [x_r 179, x_i (q_yst (q_zy z) f r * I1 190 24 + wb), x_i h, x_i (r : Int), x_i (q_yst (q_zy z) f r), x_i c, x_i nn] (I1, L1, lp, tp1) K := by
      intro wb pb I1 L1 tp1 K hwb hpb f1 l1 lm1 hK
      obtain ⟨M1, -⟩ := keep f1 lm1
      rw [M1.1.2.2.2.1, show q_yst (q_zy z) f r * q_ypa (q_zy z) = q_ymi (q_zy z) f r from rfl]
      exact m_cools (by omega) hZ.1 M1.1 hrR ⟨⟨by omega, by omega⟩, hh, t0, ⟨by omega, by omega⟩, hc, ⟨by omega, by omega⟩⟩ (fun I5 L5 tp5 f5 l5 m5 => hK _ I5 L5 tp5 (x_fr_trans f1 f5) (fun a b hx => (l5 a b hx).trans (l1 a b hx)) m5 rfl)
    have eh : ∀ wb, max 0 (h - max 0 (min 99 (q_v (q_yru (q_zy z)) (q_ylo (q_zy z)) (q_ymi (q_zy z) f r + wb) h (q_yto (q_zy z) (5 * r)) (q_yst (q_zy z) f r) c nn))) = q_yht (q_zy z) h f r c nn wb := fun wb => rfl
    have ehr : ∀ wb, -99 ≤ h - max 0 (min 99 (q_v (q_yru (q_zy z)) (q_ylo (q_zy z)) (q_ymi (q_zy z) f r + wb) h (q_yto (q_zy z) (5 * r)) (q_yst (q_zy z) f r) c nn)) ∧ h - max 0 (min 99 (q_v (q_yru (q_zy z)) (q_ylo (q_zy z)) (q_ymi (q_zy z) f r + wb) h (q_yto (q_zy z) (5 * r)) (q_yst (q_zy z) f r) c nn)) ≤ 99 := fun wb => by omega
    -- what one way adds
    have add : Int → Int → Int := fun wb pb => if r = goal then (if q_yto (q_zy z) (5 * r + 3) ≤ q_yht (q_zy z) h f r c nn wb then pb else 0) else q_od (q_zy z) goal ch (q_vis (q_yR (q_zy z)) (q_zd z) (q_zr z) m (i + 1)) (r : Int) (q_yht (q_zy z) h f r c nn wb) (c - q_po (q_zy z) c r) (nn + 1) pb
    have tail : ∀ (wb pb sum w : Int) (I5 L5 : Nat → Nat → Int) (tp5 : Nat) (z5 : Int) (S : Int → x_W → Prop), (0 ≤ pb ∧ pb ≤ 1000000) → x_fr q_fC I I5 → q_Lo L L5 → q_LM I5 L5 FA nl → z5 = max 0 (min 99 (q_v (q_yru (q_zy z)) (q_ylo (q_zy z)) (q_ymi (q_zy z) f r + wb) h (q_yto (q_zy z) (5 * r)) (q_yst (q_zy z) f r) c nn)) → (∀ v I' L' tp', v = (if r = goal then (if q_yto (q_zy z) (5 * r + 3) ≤ q_yht (q_zy z) h f r c nn wb then pb else 0) else q_od (q_zy z) goal ch (q_vis (q_yR (q_zy z)) (q_zd z) (q_zr z) m (i + 1)) (r : Int) (q_yht (q_zy z) h f r c nn wb) (c - q_po (q_zy z) c r) (nn + 1) pb) → x_fr q_fC I I' → q_Lo L L' → q_LM I' L' FA nl → S v (I', L', lp, tp')) → (x_rg (h - z5)) ∧ ((x_rg (r : Int)) ∧ ((x_rg (goal : Int)) ∧ ((¬ (r : Int) = (goal : Int) → (0 ≤ (r : Int) ∧ (r : Int) < 210) ∧ ((x_rg c) ∧ ((x_rg (I5 190 r)) ∧ (x_X g k 275 [x_r 179, x_i ((i : Int) + 1), x_i (goal : Int), x_i (r : Int), x_i (max 0 (h - z5)), x_i (c - (min c (I5 190 r))), x_i (nn + 1), x_i ch, x_i pb] (I5, L5, lp, tp5) (fun rv w10 => ∃ z9, rv = [x_i z9] ∧ S z9 w10))))) ∧ ((r : Int) = (goal : Int) → (0 ≤ (5 * (goal : Int) + 3) ∧ (5 * (goal : Int) + 3) < 40) ∧ ((x_rg (max 0 (h - z5))) ∧ ((x_rg (I5 186 (5 * (goal : Int) + 3).toNat)) ∧ (((max 0 (h - z5)) < (I5 186 (5 * (goal : Int) + 3).toNat) → S 0 (I5, L5, lp, tp5)) ∧ ((I5 186 (5 * (goal : Int) + 3).toNat) ≤ (max 0 (h - z5)) → S pb (I5, L5, lp, tp5))))))))) := by
      intro wb pb sum w I5 L5 tp5 z5 S hpb f5 l5 m5 hz hS
      obtain ⟨M5, b30, b189, b188⟩ := keep f5 m5
      have e1 := ehr wb
      have e2 := eh wb
      rw [← hz] at e1 e2
      have hh5 := hht wb
      have e190 : I5 190 r = q_ywk (q_zy z) r := M5.1.2.2.2.2.1 r hrR
      have e186 : I5 186 (5 * (goal : Int) + 3).toNat = q_yto (q_zy z) (5 * goal + 3) := by rw [show (5 * (goal : Int) + 3).toNat = 5 * goal + 3 by omega]; exact M5.1.2.2.1 _ (by omega)
      obtain ⟨-, u3, -⟩ := q_yto_rg hZ.1 hg
      rw [e2, e190, e186]
      refine ⟨⟨by omega, by omega⟩, ⟨by omega, by omega⟩, ⟨by omega, by omega⟩, fun c1 => ⟨⟨by omega, by omega⟩, ⟨by omega, by omega⟩, ⟨by omega, by omega⟩, ?_⟩, fun c1 => ⟨⟨by omega, by omega⟩, ⟨by omega, by omega⟩, ⟨by omega, by omega⟩, fun c2 => hS _ I5 L5 tp5 ?_ f5 l5 m5, fun c2 => hS _ I5 L5 tp5 ?_ f5 l5 m5⟩⟩
      · refine m_oddsFrom hZ hv hn hg hch m (i + 1) k (r : Int) _ _ (nn + 1) pb I5 L5 tp5 _ (by omega) (by omega) M5 b30 b189 b188 (Or.inr ⟨by omega, by omega⟩) ⟨by omega, by omega⟩ ⟨by unfold q_po at hpo; omega, by unfold q_po at hpo; omega⟩ ⟨by omega, by omega⟩ hpb (fun I' L' tp' f' l' m' => ⟨_, rfl, hS _ I' L' tp' ?_ (x_fr_trans f5 f') (fun a b hx => (l' a b hx).trans (l5 a b hx)) m'⟩)
        rw [if_neg (by omega)]; rfl
      · have e : r = goal := by omega
        subst e
        rw [if_pos rfl, if_neg (by omega)]
      · have e : r = goal := by omega
        subst e
        rw [if_pos rfl, if_pos c2]
    have fin : ∀ (v0 v1 : Int) (I' L' : Nat → Nat → Int) (tp' : Nat), v0 = (if r = goal then (if q_yto (q_zy z) (5 * r + 3) ≤ q_yht (q_zy z) h f r c nn 0 then (p - Int.tdiv (p * ch) 100) else 0) else q_od (q_zy z) goal ch (q_vis (q_yR (q_zy z)) (q_zd z) (q_zr z) m (i + 1)) (r : Int) (q_yht (q_zy z) h f r c nn 0) (c - q_po (q_zy z) c r) (nn + 1) (p - Int.tdiv (p * ch) 100)) → v1 = (if r = goal then (if q_yto (q_zy z) (5 * r + 3) ≤ q_yht (q_zy z) h f r c nn (q_ypa (q_zy z)) then (Int.tdiv (p * ch) 100) else 0) else q_od (q_zy z) goal ch (q_vis (q_yR (q_zy z)) (q_zd z) (q_zr z) m (i + 1)) (r : Int) (q_yht (q_zy z) h f r c nn (q_ypa (q_zy z))) (c - q_po (q_zy z) c r) (nn + 1) (Int.tdiv (p * ch) 100)) → x_fr q_fC I I' → q_Lo L L' → q_LM I' L' FA nl → Q [x_i (0 + v0 + v1)] (I', L', lp, tp') := by
      intro v0 v1 I' L' tp' h0 h1 f' l' m'
      have := hq I' L' tp' f' l' m'
      rw [q_od] at this
      by_cases e : r = goal
      · rw [if_pos e] at this h0 h1
        rw [show 0 + v0 + v1 = v1 + v0 by omega, h0, h1]; exact this
      · rw [if_neg e] at this h0 h1
        rw [show 0 + v0 + v1 = v1 + v0 by omega, h0, h1]; exact this
    have rn : ((r : Int)).toNat = r := by omega
    -- the second way, then the end
    have two : ∀ (v0 : Int) (I1 L1 : Nat → Nat → Int) (tp1 : Nat), v0 = (if r = goal then (if q_yto (q_zy z) (5 * r + 3) ≤ q_yht (q_zy z) h f r c nn 0 then (p - Int.tdiv (p * ch) 100) else 0) else q_od (q_zy z) goal ch (q_vis (q_yR (q_zy z)) (q_zd z) (q_zr z) m (i + 1)) (r : Int) (q_yht (q_zy z) h f r c nn 0) (c - q_po (q_zy z) c r) (nn + 1) (p - Int.tdiv (p * ch) 100)) → x_fr q_fC I I1 → q_Lo L L1 → q_LM I1 L1 FA nl → x_S g (k + 2) 275 Q 59 (q_lsM i goal h c nn ch p r (q_yst (q_zy z) f r) (Int.tdiv (p * ch) 100) (0 + v0) (0 + 1)) [] (I1, L1, lp, tp1) := by
      intro v0 I1 L1 tp1 h0 f1 l1 m1
      obtain ⟨M1, -⟩ := keep f1 m1
      have e24 : I1 190 24 = q_ypa (q_zy z) := M1.1.2.2.2.1
      refine v_oddsFrom_L59 ⟨by decide, fun q => absurd q (by decide), fun _ => ⟨fun q => absurd rfl q, fun _ => ?_⟩⟩
      have st := step (q_ypa (q_zy z)) (Int.tdiv (p * ch) 100) I1 L1 tp1
      rw [← e24] at st
      refine st _ (by rw [e24]; omega) ⟨by omega, by omega⟩ f1 l1 m1 (fun z5 I5 L5 tp5 f5 l5 m5 hz => ⟨z5, rfl, ?_⟩)
      dsimp only
      rw [rn]
      rw [e24] at hz
      refine tail (q_ypa (q_zy z)) (Int.tdiv (p * ch) 100) 0 0 I5 L5 tp5 z5 (fun v w => x_S g (k + 2) 275 Q 59 (q_lsM i goal h c nn ch p r (q_yst (q_zy z) f r) (Int.tdiv (p * ch) 100) (0 + v0 + v) (0 + 1 + 1)) [] w) ⟨by omega, by omega⟩ f5 l5 m5 hz (fun v1 I' L' tp' h1 f' l' m' => ?_)
      exact v_oddsFrom_L59 ⟨by decide, fun _ => fin v0 v1 I' L' tp' h0 h1 f' l' m', fun q => absurd q (by decide)⟩
    refine v_oddsFrom_L59 ⟨by decide, fun q => absurd q (by decide), fun _ => ⟨fun _ => ?_, fun q => absurd q (by decide)⟩⟩
    refine step 0 (p - Int.tdiv (p * ch) 100) I L tp _ (by decide) ⟨by omega, by omega⟩ (x_fr_refl _ _) (fun _ _ _ => rfl) hM.1.2.2.2.2.2.1 (fun z5 I5 L5 tp5 f5 l5 m5 hz => ⟨z5, rfl, ?_⟩)
    dsimp only
    rw [rn]
    exact tail 0 (p - Int.tdiv (p * ch) 100) 0 0 I5 L5 tp5 z5 (fun v w => x_S g (k + 2) 275 Q 59 (q_lsM i goal h c nn ch p r (q_yst (q_zy z) f r) (Int.tdiv (p * ch) 100) (0 + v) (0 + 1)) [] w) ⟨by omega, by omega⟩ f5 l5 m5 hz (fun v0 I' L' tp' h0 f' l' m' => two v0 I' L' tp' h0 f' l' m')
theorem m_odds {g : x_G} {k : Nat} {Q : x_Q} {I L : Nat → Nat → Int} {lp tp : Nat} {z : q_Z} {FA : Nat → q_AV} {nl : Nat} (hk : 130 ≤ k) (hZ : q_Zk z) (hm : q_ZM I L z FA nl) {r w : Int} (hr : x_rg r) (hw : x_rg w) (hq : ∀ I' L' tp', x_fr q_fE I I' → q_Lo L L' → q_LM I' L' FA nl → Q [x_i (q_aOdds z r w)] (I', L', lp, tp')) : x_X g k 276 [x_r 179, x_i r, x_i w] (I, L, lp, tp) Q := by
  obtain ⟨k, rfl⟩ : ∃ k', k = k' + 2 := ⟨k - 2, by omega⟩
  have out : ∀ I' L' tp' v, x_fr q_fE I I' → q_Lo L L' → q_LM I' L' FA nl → v = q_aOdds z r w → Q [x_i v] (I', L', lp, tp') := fun I' L' tp' v f l m e => by rw [e]; exact hq I' L' tp' f l m
  have hR := q_ZR hZ
  have hm0 := q_ZM_0 hm 0
  have o0 : ∀ v, v = q_aOdds z r w → Q [x_i v] (x_u I 179 0 0, L, lp, tp) := fun v e => out _ _ _ v (q_fE0 _ _) (fun _ _ _ => rfl) hm0.1.2.2.2.2.2.1 e
  unfold q_aOdds at out o0
  have no : ¬ (q_in8 z r ∧ 0 ≤ w ∧ w ≤ 100) → Q [x_i (-1)] (x_u I 179 0 0, L, lp, tp) := fun h => o0 _ (by rw [if_neg h])
  refine v_oddsM ?_
  rw [hm.1.1]
  refine ⟨hr, fun q => no (by omega), fun q => ⟨⟨by omega, by omega⟩, fun q2 => no (by omega), fun q2 => ⟨hw, fun q3 => ?_, fun q3 => no (by omega)⟩⟩⟩
  obtain ⟨n, rfl⟩ := Int.eq_ofNat_of_zero_le q
  rw [if_pos ⟨⟨q, q2⟩, q3⟩] at out o0
  have h25 : I 190 25 = q_zh z := hm.2.2.2.1
  have h26 : I 190 26 = q_zc z := hm.2.2.2.2
  rcases hm.2.1 with ⟨e30, hrd⟩ | ⟨v, e30, hv, nn, b1, b2, b3, b4⟩
  · rw [e30]
    refine ⟨by decide, fun h => absurd rfl h, fun _ => o0 _ ?_⟩
    unfold q_zv
    rw [q_vis_none _ _ _ 8 0 (fun x _ _ => hrd x)]
    rfl
  · rw [e30, h25, h26]
    refine ⟨⟨by omega, by omega⟩, fun _ => ?_, fun h => by omega⟩
    refine m_oddsFrom hZ hv b2 (goal := n) (by omega) q3 nn 0 k (-1) (q_zh z) (q_zc z) 0 1000000 _ L tp _ (Nat.zero_add _) (by omega) hm0 e30 b1 (fun x hx => ⟨(b3 x hx).1, (b3 x hx).2.1⟩) (Or.inl rfl) hZ.2.2.1 hZ.2.2.2.1 (by decide) (by decide) (fun I' L' tp' f' l' m' => ⟨_, rfl, out I' L' tp' _ (x_fr_trans (q_fE0 _ _) (x_fr_mono f' rfl)) l' m' ?_⟩)
    have hcut : q_zv z = q_vis (q_yR (q_zy z)) (q_zd z) (q_zr z) nn 0 := by
      have := q_vis_cut (q_yR (q_zy z)) (q_zd z) (q_zr z) (8 - nn) nn 0 (fun x h1 h2 => b4 x (by omega) (by omega))
      rw [show nn + (8 - nn) = 8 by omega] at this
      exact this
    rw [hcut]; rfl
