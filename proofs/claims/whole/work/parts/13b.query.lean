/-! comes, shares, season -/
abbrev q_fE : List (Nat × Nat × Nat) := [(179, 0, 1), (179, 8, 15), (179, 17, 18), (183, 0, 128), (195, 0, 8191), (179, 35, 43), (191, 0, 8), (192, 0, 8), (193, 0, 8)]
abbrev q_in8 (z : q_Z) (r : Int) : Prop := 0 ≤ r ∧ r < (q_yR (q_zy z) : Int)
theorem q_ZR {z : q_Z} (hZ : q_Zk z) : q_yR (q_zy z) ≤ 8 := by rcases hZ.1.1.1 with q | q <;> omega
theorem q_ZC_R {I : Nat → Nat → Int} {lp : Nat} {z : q_Z} (h : q_ZC I lp z) : I 14 3 = (q_yR (q_zy z) : Int) := h.1.1.1
theorem q_ZM_0 {I L : Nat → Nat → Int} {z : q_Z} {FA : Nat → q_AV} {nl : Nat} (h : q_ZM I L z FA nl) (v : Int) : q_ZM (x_u I 179 0 v) L z FA nl := by
  obtain ⟨⟨y1, y2, y3, y4, y5, y6, y7⟩, h2, h3, h4, h5⟩ := h
  exact ⟨⟨y1, y2, y3, y4, y5, q_LM_u y6 (by decide), y7⟩, h2, h3, h4, h5⟩
theorem q_fE0 (I : Nat → Nat → Int) (v : Int) : x_fr q_fE I (x_u I 179 0 v) := x_fr_u (x_fr_refl _ _) rfl
theorem q_fE1 {I I' : Nat → Nat → Int} {v : Int} (h : x_fr q_fD (x_u I 179 0 v) I') : x_fr q_fE I I' := x_fr_trans (q_fE0 I v) (x_fr_mono h rfl)
/-- the class's walk, room by room -/
theorem q_Wc_at {I : Nat → Nat → Int} {z : q_Z} (hZ : q_Zk z) (h : q_Wc I (q_zs z) (q_zv z)) (r : Nat) (hr : r < 8) : (0 ≤ I 156 8 ∧ I 156 8 < 2147483648) ∧ (I 156 8).toNat = q_sb (q_zs z) ∧ ((q_sb (q_zs z)).testBit r = true → I 157 r = q_sM (q_zs z) r ∧ I 158 r = q_sH (q_zs z) r ∧ I 159 r = q_sP (q_zs z) r) := by
  have h11 := (q_zs_ok hZ).2.2.2.2.2.2.2.2.2.2
  obtain ⟨w1, w2, w3, w4, w5, w6, w7, w8, w9⟩ := h
  rw [w2]
  exact ⟨⟨by omega, by omega⟩, by omega, fun hb => w7 r hr hb⟩
theorem q_Wm_at {I : Nat → Nat → Int} {z : q_Z} (hZ : q_Zk z) (h : q_Wm I (q_zy z) (q_zs z)) (r : Nat) (hr : r < q_yR (q_zy z)) : (0 ≤ I 179 42 ∧ I 179 42 < 2147483648) ∧ ((I 179 42).toNat.testBit r = true ↔ (q_sb (q_zs z)).testBit r = false) ∧ ((q_sb (q_zs z)).testBit r = true → I 191 r = q_sM (q_zs z) r ∧ I 192 r = q_sH (q_zs z) r) ∧ I 193 r = q_sP (q_zs z) r := by
  obtain ⟨w1, ⟨l, e, hl, hb⟩, w3, w4⟩ := h
  have hR := q_ZR hZ
  rw [e]
  refine ⟨⟨by omega, by omega⟩, ?_, fun q => w3 r (by omega) q, w4 r hr⟩
  rw [show ((l : Int)).toNat = l by omega, hb r (by omega)]
  simp [hr]
def q_aComes (z : q_Z) (r w : Int) : Int := if q_in8 z r ∧ (q_sb (q_zs z)).testBit r.toNat = true then (if w = 0 then q_sM (q_zs z) r.toNat else if w = 1 then q_sH (q_zs z) r.toNat else if w = 2 then q_sP (q_zs z) r.toNat else -1) else -1
theorem c_comes {g : x_G} {k : Nat} {Q : x_Q} {I L : Nat → Nat → Int} {lp tp : Nat} {z : q_Z} (hZ : q_Zk z) (hc : q_ZC I lp z) {r w : Int} (hr : x_rg r) (hw : x_rg w) (hq : ∀ I', x_fr q_fK I I' → Q [x_i (q_aComes z r w)] (I', L, lp, tp)) : x_X g (k + 15) 146 [x_r 1, x_i r, x_i w] (I, L, lp, tp) Q := by
  have out : ∀ I' v, x_fr q_fK I I' → v = q_aComes z r w → Q [x_i v] (I', L, lp, tp) := fun I' v f e => by rw [e]; exact hq I' f
  have hR := q_ZR hZ
  unfold q_aComes at out
  refine v_comes (k := k + 12) ?_
  rw [q_ZC_R hc]
  refine ⟨hr, fun q => out _ _ (x_fr_refl _ _) (by rw [if_neg (by omega)]), fun q => ⟨⟨by omega, by omega⟩, fun q2 => out _ _ (x_fr_refl _ _) (by rw [if_neg (by omega)]), fun q2 => ?_⟩⟩
  obtain ⟨n, rfl⟩ := Int.eq_ofNat_of_zero_le q
  refine s_goRound hZ hc (fun I' f' c' W' => ⟨rfl, ?_⟩)
  obtain ⟨a1, a2, a3⟩ := q_Wc_at hZ W' n (by omega)
  dsimp only
  rw [a2, show ((n : Int)).toNat = n by omega] at *
  refine ⟨a1, ⟨by omega, by omega⟩, fun hb => ?_, fun hb => out _ _ f' (by rw [if_neg (fun x => hb x.2)])⟩
  obtain ⟨b1, b2, b3⟩ := a3 hb
  rw [b1, b2, b3]
  rw [if_pos ⟨⟨q, q2⟩, hb⟩] at out
  refine ⟨hw, fun c => ⟨⟨by omega, by omega⟩, out _ _ f' (by rw [if_pos c])⟩, fun c => ⟨⟨by omega, by omega⟩, out _ _ f' (by rw [if_neg (by omega), if_pos c])⟩, fun c => ⟨⟨by omega, by omega⟩, out _ _ f' (by rw [if_neg (by omega), if_neg (by omega), if_pos c])⟩, fun c => out _ _ f' (by rw [if_neg c.1, if_neg c.2.1, if_neg c.2.2])⟩
theorem m_comes {g : x_G} {k : Nat} {Q : x_Q} {I L : Nat → Nat → Int} {lp tp : Nat} {z : q_Z} {FA : Nat → q_AV} {nl : Nat} (hk : 110 ≤ k) (hZ : q_Zk z) (hm : q_ZM I L z FA nl) {r w : Int} (hr : x_rg r) (hw : x_rg w) (hq : ∀ I' L' tp', x_fr q_fE I I' → q_Lo L L' → q_LM I' L' FA nl → Q [x_i (q_aComes z r w)] (I', L', lp, tp')) : x_X g k 252 [x_r 179, x_i r, x_i w] (I, L, lp, tp) Q := by
  obtain ⟨k, rfl⟩ : ∃ k', k = k' + 2 := ⟨k - 2, by omega⟩
  have out : ∀ I' L' tp' v, x_fr q_fE I I' → q_Lo L L' → q_LM I' L' FA nl → v = q_aComes z r w → Q [x_i v] (I', L', lp, tp') := fun I' L' tp' v f l m e => by rw [e]; exact hq I' L' tp' f l m
  have hR := q_ZR hZ
  have hm0 := q_ZM_0 hm 0
  have o0 : ∀ v, v = q_aComes z r w → Q [x_i v] (x_u I 179 0 0, L, lp, tp) := fun v e => out _ _ _ v (q_fE0 _ _) (fun _ _ _ => rfl) hm0.1.2.2.2.2.2.1 e
  unfold q_aComes at out o0
  refine v_comesM ?_
  rw [hm.1.1]
  refine ⟨hr, fun q => o0 _ (by rw [if_neg (by omega)]), fun q => ⟨⟨by omega, by omega⟩, fun q2 => o0 _ (by rw [if_neg (by omega)]), fun q2 => ⟨hw, fun q3 => ?_, fun q3 => o0 _ ?_⟩⟩⟩
  · obtain ⟨n, rfl⟩ := Int.eq_ofNat_of_zero_le q
    refine m_goNow (by omega) hZ hm0 (fun I' L' tp' f' l' m' W' => ⟨rfl, ?_⟩)
    obtain ⟨a1, a2, a3, a4⟩ := q_Wm_at hZ W' n (by omega)
    have out' := fun v => out I' L' tp' v (q_fE1 f') l' m'.1.2.2.2.2.2.1
    dsimp only
    rw [show ((n : Int)).toNat = n by omega] at *
    refine ⟨a1, ⟨by omega, by omega⟩, fun hb => out' _ ?_, fun hb => ?_⟩
    · rw [if_neg]; rw [a2.mp hb]; simp
    · have hb' : (q_sb (q_zs z)).testBit n = true := by
        cases e : (q_sb (q_zs z)).testBit n with
        | true => rfl
        | false => exact absurd (a2.mpr e) hb
      obtain ⟨b1, b2⟩ := a3 hb'
      rw [b1, b2, a4]
      rw [if_pos ⟨⟨q, q2⟩, hb'⟩] at out'
      exact ⟨fun c => ⟨fun c2 => ⟨⟨by omega, by omega⟩, out' _ (by rw [if_neg c, if_neg c2, if_pos (by omega)])⟩, fun c2 => ⟨⟨by omega, by omega⟩, out' _ (by rw [if_neg c, if_pos c2])⟩⟩, fun c => ⟨⟨by omega, by omega⟩, out' _ (by rw [if_pos c])⟩⟩
  · by_cases e : q_in8 z r ∧ (q_sb (q_zs z)).testBit r.toNat = true
    · rw [if_pos e, if_neg (by omega), if_neg (by omega), if_neg (by omega)]
    · rw [if_neg e]
def q_aShares (z : q_Z) (r c : Int) : Int := if q_in8 z r ∧ 0 ≤ c ∧ c ≤ 999 then (if q_sq (q_zs z) = 0 then 0 else Int.tdiv (c * q_sP (q_zs z) r.toNat) (q_sq (q_zs z))) else -1
theorem q_mulr {c p : Int} (h1 : 0 ≤ c ∧ c ≤ 999) (h2 : 0 ≤ p ∧ p ≤ 60) : x_rg (c * p) := by
  have a1 := Int.mul_nonneg h1.1 h2.1
  have a2 : c * p ≤ 999 * 60 := Int.mul_le_mul h1.2 h2.2 h2.1 (by decide)
  exact ⟨by omega, by omega⟩
theorem c_shares {g : x_G} {k : Nat} {Q : x_Q} {I L : Nat → Nat → Int} {lp tp : Nat} {z : q_Z} (hZ : q_Zk z) (hc : q_ZC I lp z) {r w : Int} (hr : x_rg r) (hw : x_rg w) (hq : ∀ I', x_fr q_fK I I' → Q [x_i (q_aShares z r w)] (I', L, lp, tp)) : x_X g (k + 15) 147 [x_r 1, x_i r, x_i w] (I, L, lp, tp) Q := by
  have out : ∀ I' v, x_fr q_fK I I' → v = q_aShares z r w → Q [x_i v] (I', L, lp, tp) := fun I' v f e => by rw [e]; exact hq I' f
  have hR := q_ZR hZ
  unfold q_aShares at out
  refine v_shares (k := k + 12) ?_
  rw [q_ZC_R hc]
  refine ⟨hr, fun q => out _ _ (x_fr_refl _ _) (by rw [if_neg (by omega)]), fun q => ⟨⟨by omega, by omega⟩, fun q2 => out _ _ (x_fr_refl _ _) (by rw [if_neg (by omega)]), fun q2 => ⟨hw, fun q3 => out _ _ (x_fr_refl _ _) (by rw [if_neg (by omega)]), fun q3 => ⟨fun q4 => ?_, fun q4 => out _ _ (x_fr_refl _ _) (by rw [if_neg (by omega)])⟩⟩⟩⟩
  obtain ⟨n, rfl⟩ := Int.eq_ofNat_of_zero_le q
  refine s_goRound hZ hc (fun I' f' c' W' => ⟨rfl, ?_⟩)
  obtain ⟨a1, a2, a3⟩ := q_Wc_at hZ W' n (by omega)
  have e9 := W'.2.2.1
  obtain ⟨-, -, -, s4, s5, -⟩ := q_zs_ok hZ
  have sp := (q_zs_rg hZ).2 n
  have s3 := (q_zs_ok hZ).2.2.1
  dsimp only
  rw [a2, e9, show ((n : Int)).toNat = n by omega] at *
  rw [if_pos ⟨⟨q, q2⟩, q3, q4⟩] at out
  refine ⟨⟨by omega, by omega⟩, fun c => ⟨a1, ⟨by omega, by omega⟩, fun hb => ?_, fun hb => ?_⟩, fun c => out _ _ f' (by rw [if_pos c])⟩
  · rw [(a3 hb).2.2]
    exact ⟨⟨by omega, by omega⟩, q_mulr ⟨q3, q4⟩ sp, c, out _ _ f' (by rw [if_neg c])⟩
  · have p0 := q_zs_P0 z n (by simpa using hb)
    refine ⟨by rw [Int.mul_zero]; decide, c, out _ _ f' (by rw [if_neg c, p0])⟩
theorem m_shares {g : x_G} {k : Nat} {Q : x_Q} {I L : Nat → Nat → Int} {lp tp : Nat} {z : q_Z} {FA : Nat → q_AV} {nl : Nat} (hk : 110 ≤ k) (hZ : q_Zk z) (hm : q_ZM I L z FA nl) {r w : Int} (hr : x_rg r) (hw : x_rg w) (hq : ∀ I' L' tp', x_fr q_fE I I' → q_Lo L L' → q_LM I' L' FA nl → Q [x_i (q_aShares z r w)] (I', L', lp, tp')) : x_X g k 267 [x_r 179, x_i r, x_i w] (I, L, lp, tp) Q := by
  obtain ⟨k, rfl⟩ : ∃ k', k = k' + 2 := ⟨k - 2, by omega⟩
  have out : ∀ I' L' tp' v, x_fr q_fE I I' → q_Lo L L' → q_LM I' L' FA nl → v = q_aShares z r w → Q [x_i v] (I', L', lp, tp') := fun I' L' tp' v f l m e => by rw [e]; exact hq I' L' tp' f l m
  have hR := q_ZR hZ
  have hm0 := q_ZM_0 hm 0
  have o0 : ∀ v, v = q_aShares z r w → Q [x_i v] (x_u I 179 0 0, L, lp, tp) := fun v e => out _ _ _ v (q_fE0 _ _) (fun _ _ _ => rfl) hm0.1.2.2.2.2.2.1 e
  unfold q_aShares at out o0
  refine v_sharesM ?_
  rw [hm.1.1]
  refine ⟨hr, fun q => o0 _ (by rw [if_neg (by omega)]), fun q => ⟨⟨by omega, by omega⟩, fun q2 => o0 _ (by rw [if_neg (by omega)]), fun q2 => ⟨hw, fun q3 => ?_, fun q3 => o0 _ (by rw [if_neg (by omega)])⟩⟩⟩
  obtain ⟨n, rfl⟩ := Int.eq_ofNat_of_zero_le q
  refine m_goNow (by omega) hZ hm0 (fun I' L' tp' f' l' m' W' => ⟨rfl, ?_⟩)
  obtain ⟨a1, a2, a3, a4⟩ := q_Wm_at hZ W' n (by omega)
  have out' := fun v => out I' L' tp' v (q_fE1 f') l' m'.1.2.2.2.2.2.1
  have e41 := W'.1.2.2.2.2.2.2
  obtain ⟨-, -, s3, s4, s5, -⟩ := q_zs_ok hZ
  have sp := (q_zs_rg hZ).2 n
  dsimp only
  rw [show ((n : Int)).toNat = n by omega, e41, a4] at *
  rw [if_pos ⟨⟨q, q2⟩, q3⟩] at out'
  exact ⟨⟨by omega, by omega⟩, fun c => ⟨⟨by omega, by omega⟩, q_mulr q3 sp, c, out' _ (by rw [if_neg c])⟩, fun c => out' _ (by rw [if_pos c])⟩
/-- heat as it comes, 0 if it doesn't -/
def q_hAt (z : q_Z) (r : Nat) : Int := if (q_sb (q_zs z)).testBit r = true then q_sH (q_zs z) r else 0
theorem q_hAt_rg {z : q_Z} (hZ : q_Zk z) (r : Nat) : 0 ≤ q_hAt z r ∧ q_hAt z r ≤ 99 := by
  unfold q_hAt
  by_cases h : (q_sb (q_zs z)).testBit r = true
  · rw [if_pos h]; exact ((q_zs_rg hZ).1 r h).2.2
  · rw [if_neg h]; omega
def q_aSeason (z : q_Z) (r : Int) : Int := if q_in8 z r then min 3 (Int.tdiv (q_hAt z r.toNat) 20) else -1
theorem q_td20 {h : Int} (hh : 0 ≤ h ∧ h ≤ 99) : Int.tdiv h 20 = h / 20 := Int.tdiv_eq_ediv_of_nonneg hh.1
theorem c_season {g : x_G} {k : Nat} {Q : x_Q} {I L : Nat → Nat → Int} {lp tp : Nat} {z : q_Z} (hZ : q_Zk z) (hc : q_ZC I lp z) {r : Int} (hr : x_rg r) (hq : ∀ I', x_fr q_fK I I' → Q [x_i (q_aSeason z r)] (I', L, lp, tp)) : x_X g (k + 15) 158 [x_r 1, x_i r] (I, L, lp, tp) Q := by
  have out : ∀ I' v, x_fr q_fK I I' → v = q_aSeason z r → Q [x_i v] (I', L, lp, tp) := fun I' v f e => by rw [e]; exact hq I' f
  have hR := q_ZR hZ
  unfold q_aSeason at out
  refine v_season (k := k + 12) ?_
  rw [q_ZC_R hc]
  refine ⟨hr, fun q => out _ _ (x_fr_refl _ _) (by rw [if_neg (by omega)]), fun q => ⟨⟨by omega, by omega⟩, fun q2 => out _ _ (x_fr_refl _ _) (by rw [if_neg (by omega)]), fun q2 => ?_⟩⟩
  obtain ⟨n, rfl⟩ := Int.eq_ofNat_of_zero_le q
  refine s_goRound hZ hc (fun I' f' c' W' => ⟨rfl, ?_⟩)
  obtain ⟨a1, a2, a3⟩ := q_Wc_at hZ W' n (by omega)
  dsimp only
  rw [a2, show ((n : Int)).toNat = n by omega] at *
  rw [if_pos ⟨q, q2⟩] at out
  unfold q_hAt at out
  refine ⟨a1, ⟨by omega, by omega⟩, fun hb => ?_, fun hb => ?_⟩
  · have hh := ((q_zs_rg hZ).1 n hb).2.2
    rw [(a3 hb).2.1]
    refine ⟨⟨by omega, by omega⟩, ⟨by omega, by omega⟩, by rw [q_td20 hh]; exact ⟨by omega, by omega⟩, out _ _ f' (by rw [if_pos hb])⟩
  · exact ⟨by decide, out _ _ f' (by rw [if_neg hb])⟩
theorem m_season {g : x_G} {k : Nat} {Q : x_Q} {I L : Nat → Nat → Int} {lp tp : Nat} {z : q_Z} {FA : Nat → q_AV} {nl : Nat} (hk : 110 ≤ k) (hZ : q_Zk z) (hm : q_ZM I L z FA nl) {r : Int} (hr : x_rg r) (hq : ∀ I' L' tp', x_fr q_fE I I' → q_Lo L L' → q_LM I' L' FA nl → Q [x_i (q_aSeason z r)] (I', L', lp, tp')) : x_X g k 277 [x_r 179, x_i r] (I, L, lp, tp) Q := by
  obtain ⟨k, rfl⟩ : ∃ k', k = k' + 2 := ⟨k - 2, by omega⟩
  have out : ∀ I' L' tp' v, x_fr q_fE I I' → q_Lo L L' → q_LM I' L' FA nl → v = q_aSeason z r → Q [x_i v] (I', L', lp, tp') := fun I' L' tp' v f l m e => by rw [e]; exact hq I' L' tp' f l m
  have hR := q_ZR hZ
  have hm0 := q_ZM_0 hm 0
  have o0 : ∀ v, v = q_aSeason z r → Q [x_i v] (x_u I 179 0 0, L, lp, tp) := fun v e => out _ _ _ v (q_fE0 _ _) (fun _ _ _ => rfl) hm0.1.2.2.2.2.2.1 e
  unfold q_aSeason at out o0
  refine v_seasonM ?_
  rw [hm.1.1]
  refine ⟨hr, fun q => o0 _ (by rw [if_neg (by omega)]), fun q => ⟨⟨by omega, by omega⟩, fun q2 => o0 _ (by rw [if_neg (by omega)]), fun q2 => ?_⟩⟩
  obtain ⟨n, rfl⟩ := Int.eq_ofNat_of_zero_le q
  refine m_goNow (by omega) hZ hm0 (fun I' L' tp' f' l' m' W' => ⟨rfl, ?_⟩)
  obtain ⟨a1, a2, a3, a4⟩ := q_Wm_at hZ W' n (by omega)
  have out' := fun v => out I' L' tp' v (q_fE1 f') l' m'.1.2.2.2.2.2.1
  have hh := q_hAt_rg hZ n
  dsimp only
  rw [show ((n : Int)).toNat = n by omega] at *
  rw [if_pos ⟨q, q2⟩, q_td20 hh] at out'
  unfold q_hAt at out' hh
  refine ⟨a1, ⟨by omega, by omega⟩, fun hb => out' _ ?_, fun hb => ?_⟩
  · rw [if_neg (by rw [a2.mp hb]; simp)]; rfl
  · have hb' : (q_sb (q_zs z)).testBit n = true := by
      cases e : (q_sb (q_zs z)).testBit n with
      | true => rfl
      | false => exact absurd (a2.mpr e) hb
    rw [if_pos hb'] at out' hh
    rw [(a3 hb').2]
    exact ⟨⟨by omega, by omega⟩, ⟨by omega, by omega⟩, fun c => ⟨fun c2 => ⟨fun c3 => out' _ (by omega), fun c3 => out' _ (by omega)⟩, fun c2 => out' _ (by omega)⟩, fun c => out' _ (by omega)⟩
