/-! sightings: the calls of the reference -/
abbrev q_fTt : List (Nat × Nat × Nat) := [(200, 0, 8), (199, 0, 8), (179, 56, 60), (179, 0, 1)]
theorem q_Yl_m {I L : Nat → Nat → Int} {y : q_Y} {FA : Nat → q_AV} {nl : Nat} (h : q_Ym I L y FA nl) : q_Yl I y := ⟨h.1, h.2.2.1, h.2.2.2.1⟩
theorem m_layFits {g : x_G} {k : Nat} {Q : x_Q} {I L : Nat → Nat → Int} {lp tp : Nat} {z : q_Z} (hZ : q_Zk z) (hy : q_Yl I (q_zy z)) {es la : Nat → Int} {ns : Nat} (hs : q_Sm I es la ns) {i t : Int} (hi : x_rg i) (ht : x_rg t) (hq : ∀ I', x_fr q_fTt I I' → I' 179 56 = ((q_fa z es la).length : Int) → I' 179 58 = q_keep i 0 (-1) (q_fa z es la) → (∀ x, x < q_yR (q_zy z) → I' 200 x = 2 * q_ys t x (q_fa z es la) - ((q_fa z es la).length : Int)) → Q [] (I', L, lp, tp)) : x_X g (k + 25) 262 [x_r 179, x_i i, x_i t] (I, L, lp, tp) Q := by
  have hR := q_ZR hZ
  have hp := q_pow8 hR
  have hl := q_fa_len hZ es la
  have loop : ∀ (j r : Nat) (J : Nat → Nat → Int), r + j = 8 → x_fr q_fTt I J → J 179 56 = 0 → J 179 57 = i → J 179 58 = -1 → J 179 59 = t → (∀ x, x < r → J 200 x = 0) → x_S g (k + 24 + 1) 262 Q 14 [x_r 179, x_n, x_n, x_i (r : Int)] [] (J, L, lp, tp) := by
    intro j
    induction j with
    | zero =>
      intro r J hm fJ e56 e57 e58 e59 e200
      have hyJ : q_Yl J (q_zy z) := ⟨(fJ _ _ rfl).trans hy.1, fun k hk => (fJ _ _ rfl).trans (hy.2.1 k hk), (fJ _ _ rfl).trans hy.2.2⟩
      have hsJ : q_Sm J es la ns := q_Sm_eq hs (fJ _ _ rfl) (fun _ => fJ _ _ rfl) (fun _ => fJ _ _ rfl) (fun _ => fJ _ _ rfl)
      refine v_layFits_L14 ?_
      rw [hyJ.1, q_every _ (by omega)]
      refine ⟨⟨by omega, by omega⟩, fun _ => ?_, fun q => by omega⟩
      refine m_goFits hZ.1 hi ht (q_yR (q_zy z)) (2 ^ q_yR (q_zy z) - 1) (k + 24) (-1) 0 0 0 (-1) (fun _ => 0) J _ (q_pc_every hR) (by omega) (fun r hr => by rw [q_every_bit] at hr; simpa using hr) (by omega) hyJ hsJ (fun x hx hb => ?_) e56 (by decide) ?_ e57 e58 e59 (Or.inl rfl) (by decide) (by omega) (fun I' f' g56 g58 g200 _ => ⟨rfl, ?_⟩)
      · rw [q_every_bit] at hb; simp at hb; omega
      · show 0 + ((q_fa z es la).length : Int) ≤ 100000000; omega
      · rw [Int.zero_add] at g56
        refine hq I' (x_fr_trans fJ (x_fr_mono f' rfl)) g56 g58 (fun x hx => ?_)
        rw [g200 x hx, e200 x (by omega), Int.zero_add]
        rfl
    | succ j ih =>
      intro r J hm fJ e56 e57 e58 e59 e200
      refine v_layFits_L14 ?_
      rw [show ((r : Int)).toNat = r by omega]
      refine ⟨⟨by omega, by omega⟩, fun q => by omega, fun _ => ⟨⟨by omega, by omega⟩, ih (r + 1) _ (by omega) (x_fr_u (k := r) fJ (x_mem1 ⟨by omega, by omega⟩)) ((x_u_ne _ _ (fun h => absurd h.1 (by decide))).trans e56) ((x_u_ne _ _ (fun h => absurd h.1 (by decide))).trans e57) ((x_u_ne _ _ (fun h => absurd h.1 (by decide))).trans e58) ((x_u_ne _ _ (fun h => absurd h.1 (by decide))).trans e59) (fun x hx => ?_)⟩⟩
      rw [x_u_eq]
      by_cases e : x = r
      · rw [if_pos ⟨rfl, e⟩]
      · rw [if_neg (fun h => e h.2)]; exact e200 x (by omega)
  refine v_layFits (k := k + 24) ?_
  exact loop 8 0 _ (by decide) (x_fr_u (x_fr_u (x_fr_u (x_fr_u (x_fr_refl _ _) rfl) rfl) rfl) rfl) rfl rfl rfl rfl (fun x hx => by omega)
theorem q_Yl_0 {I : Nat → Nat → Int} {y : q_Y} (h : q_Yl I y) : q_Yl (x_u I 179 0 0) y := ⟨h.1, h.2.1, h.2.2⟩
theorem q_Sm_0 {I : Nat → Nat → Int} {es la : Nat → Int} {n : Nat} (h : q_Sm I es la n) : q_Sm (x_u I 179 0 0) es la n := q_Sm_eq h rfl (fun _ => rfl) (fun _ => rfl) (fun _ => rfl)
theorem m_fits {g : x_G} {k : Nat} {Q : x_Q} {I L : Nat → Nat → Int} {lp tp : Nat} {z : q_Z} (hZ : q_Zk z) (hy : q_Yl I (q_zy z)) {es la : Nat → Int} {ns : Nat} (hs : q_Sm I es la ns) {i : Int} (hi : x_rg i) (hq : ∀ I', x_fr q_fTt I I' → Q [x_i (q_aFits z es la i)] (I', L, lp, tp)) : x_X g (k + 30) 263 [x_r 179, x_i i] (I, L, lp, tp) Q := by
  have hR := q_ZR hZ
  have f0 : x_fr q_fTt I (x_u I 179 0 0) := x_fr_u (x_fr_refl _ _) rfl
  unfold q_aFits at hq
  have no : ¬ (¬ q_yR (q_zy z) = 0 ∧ -1 ≤ i) → Q [x_i (-1)] (x_u I 179 0 0, L, lp, tp) := fun h => by have := hq _ f0; rw [if_neg h] at this; exact this
  refine v_fitsM (k := k + 29) ?_
  rw [hy.1]
  refine ⟨⟨by omega, by omega⟩, fun c => no (by omega), fun c => ⟨hi, fun c1 => ?_, fun c1 => no (by omega)⟩⟩
  rw [if_pos ⟨by omega, c1⟩] at hq
  refine x_le (show 25 ≤ k + 29 by omega) (m_layFits (k := 0) hZ (q_Yl_0 hy) (q_Sm_0 hs) hi (by decide) (fun I' f' e56 e58 _ => ⟨rfl, fun c2 => ?_, fun c2 => ?_⟩))
  · have := hq I' (x_fr_trans f0 f')
    rw [if_neg c2, ← q_keep_nth (w := i) _ 0 _ (by omega), ← e58] at this
    exact this
  · have := hq I' (x_fr_trans f0 f')
    rw [if_pos c2, ← e56] at this
    exact this
theorem m_second {g : x_G} {k : Nat} {Q : x_Q} {I L : Nat → Nat → Int} {lp tp : Nat} {z : q_Z} (hZ : q_Zk z) (hy : q_Yl I (q_zy z)) {es la : Nat → Int} {ns : Nat} (hs : q_Sm I es la ns) (hq : ∀ I', x_fr q_fTt I I' → Q [x_i (q_aSecond z es la)] (I', L, lp, tp)) : x_X g (k + 30) 264 [x_r 179] (I, L, lp, tp) Q := by
  have hR := q_ZR hZ
  have hl := q_fa_len hZ es la
  have f0 : x_fr q_fTt I (x_u I 179 0 0) := x_fr_u (x_fr_refl _ _) rfl
  unfold q_aSecond at hq
  refine v_secondM (k := k + 29) ?_
  rw [hy.1]
  refine ⟨⟨by omega, by omega⟩, fun c => ?_, fun c => by have := hq _ f0; rw [if_neg (by omega)] at this; exact this⟩
  rw [if_pos (by omega)] at hq
  refine x_le (show 25 ≤ k + 29 by omega) (m_layFits (k := 0) hZ (q_Yl_0 hy) (q_Sm_0 hs) (by decide) (by decide) (fun I' f' e56 e58 _ => ⟨rfl, ?_⟩))
  dsimp only
  rw [e56]
  refine ⟨⟨by omega, by omega⟩, fun c1 => ?_, fun c1 => ?_⟩
  · have := hq I' (x_fr_trans f0 f'); rw [if_neg (by omega)] at this; exact this
  · have := hq I' (x_fr_trans f0 f'); rw [if_pos (by omega)] at this; exact this
theorem m_ask {g : x_G} {k : Nat} {Q : x_Q} {I L : Nat → Nat → Int} {lp tp : Nat} {z : q_Z} (hZ : q_Zk z) (hy : q_Yl I (q_zy z)) {es la : Nat → Int} {ns : Nat} (hs : q_Sm I es la ns) {t : Int} (ht : x_rg t) (hq : ∀ I', x_fr q_fTt I I' → Q [x_i (q_aAsk z es la t)] (I', L, lp, tp)) : x_X g (k + 30) 265 [x_r 179, x_i t] (I, L, lp, tp) Q := by
  have hR := q_ZR hZ
  have hl := q_fa_len hZ es la
  have f0 : x_fr q_fTt I (x_u I 179 0 0) := x_fr_u (x_fr_refl _ _) rfl
  unfold q_aAsk at hq
  have no : ¬ (¬ q_yR (q_zy z) = 0 ∧ (0 ≤ t ∧ t ≤ 999)) → Q [x_i (-1)] (x_u I 179 0 0, L, lp, tp) := fun h => by have := hq _ f0; rw [if_neg h] at this; exact this
  refine v_askM (k := k + 28) ?_
  rw [hy.1]
  refine ⟨⟨by omega, by omega⟩, fun c => no (by omega), fun c => ⟨ht, fun c1 => ?_, fun c1 => no (fun h => c1 h.2)⟩⟩
  rw [if_pos ⟨by omega, c1⟩] at hq
  refine x_le (show 25 ≤ k + 28 by omega) (m_layFits (k := 0) hZ (q_Yl_0 hy) (q_Sm_0 hs) (by decide) ht (fun I' f' e56 e58 e200 => ⟨rfl, ?_⟩))
  have hq' := hq I' (x_fr_trans f0 f')
  have e24 : I' 179 24 = (q_yR (q_zy z) : Int) := (f' _ _ rfl).trans hy.1
  dsimp only
  rw [e56]
  refine ⟨⟨by omega, by omega⟩, fun c2 => ?_, fun c2 => by rw [if_pos (by omega)] at hq'; exact hq'⟩
  rw [if_neg (by omega)] at hq'
  have loop : ∀ (j i b : Nat), i + j = q_yR (q_zy z) → b < q_yR (q_zy z) → Q [x_i ((q_ev (q_le2 t (q_fa z es la)) j i b : Nat) : Int)] (I', L, lp, tp) → x_S g (k + 28 + 2) 265 Q 27 [x_r 179, x_n, x_i (b : Int), x_i (i : Int)] [] (I', L, lp, tp) := by
    intro j
    induction j with
    | zero =>
      intro i b hm hb hq
      refine v_askM_L27 ?_
      rw [e24]
      exact ⟨⟨by omega, by omega⟩, ⟨by omega, by omega⟩, fun _ => hq, fun q => by omega⟩
    | succ j ih =>
      intro i b hm hb hq
      rw [q_ev] at hq
      have r1 := q_ys_rg (a := t) (x := i) (q_fa z es la)
      have r2 := q_ys_rg (a := t) (x := b) (q_fa z es la)
      refine v_askM_L27 ?_
      rw [e24, show ((i : Int)).toNat = i by omega, show ((b : Int)).toNat = b by omega, e200 i (by omega), e200 b hb]
      refine ⟨⟨by omega, by omega⟩, ⟨by omega, by omega⟩, fun q => by omega, fun _ => ⟨⟨by omega, by omega⟩, ⟨by omega, by omega⟩, ⟨by omega, by omega⟩, ⟨by omega, by omega⟩, ⟨by omega, by omega⟩, ⟨by omega, by omega⟩, fun c => ?_, fun c => ?_⟩⟩
      · rw [if_neg (by unfold q_le2; omega)] at hq
        exact ih (i + 1) b (by omega) hb hq
      · rw [if_pos (by unfold q_le2; omega)] at hq
        exact ih (i + 1) i (by omega) (by omega) hq
  exact loop (q_yR (q_zy z) - 1) 1 0 (by omega) (by omega) hq'
abbrev q_fNm : List (Nat × Nat × Nat) := [(197, 0, 10), (198, 0, 10), (201, 0, 10), (179, 55, 56), (179, 0, 1)]
theorem m_seen {g : x_G} {k : Nat} {Q : x_Q} {I L : Nat → Nat → Int} {lp tp R : Nat} (hR : R ≤ 8) (e24 : I 179 24 = (R : Int)) {es la : Nat → Int} {n : Nat} (hs : q_Sm I es la n) {r t h : Int} (hr : x_rg r) (ht : x_rg t) (hh : h = 0 ∨ h = 1)
    (q1 : 0 ≤ r ∧ r < (R : Int) → 0 ≤ t ∧ t ≤ 999 → n < 10 → ∀ I', x_fr q_fNm I I' → q_Sm I' (q_es1 es r.toNat t h) (q_la1 la r.toNat t h) (n + 1) → Q [x_i ((n : Int) + 1)] (I', L, lp, tp)) (q0 : ¬ ((0 ≤ r ∧ r < (R : Int)) ∧ (0 ≤ t ∧ t ≤ 999) ∧ n < 10) → Q [x_i (-1)] (x_u I 179 0 0, L, lp, tp)) : x_X g (k + 2) 259 [x_r 179, x_i r, x_i t, x_i h] (I, L, lp, tp) Q := by
  obtain ⟨s1, s2, s3, s4⟩ := hs
  refine v_seenM ?_
  rw [e24, s1, show ((n : Int)).toNat = n by omega]
  refine ⟨hr, fun c => q0 (by omega), fun c1 => ⟨⟨by omega, by omega⟩, fun c => q0 (by omega), fun c2 => ⟨ht, fun c3 => ⟨⟨by omega, by omega⟩, fun c4 => ⟨⟨by omega, by omega⟩, hh, ?_⟩, fun c => q0 (by omega)⟩, fun c => q0 (fun h => c h.2.1)⟩⟩⟩
  obtain ⟨a, rfl⟩ := Int.eq_ofNat_of_zero_le c1
  have fr : x_fr q_fNm I (x_u (x_u (x_u (x_u (x_u I 179 0 0) 197 n (a : Int)) 198 n t) 201 n h) 179 55 ((n : Int) + 1)) := x_fr_u (x_fr_u (k := n) (x_fr_u (k := n) (x_fr_u (k := n) (x_fr_u (x_fr_refl _ _) rfl) (x_mem1 ⟨by omega, by omega⟩)) (x_mem2 (b := 0) (lo := 0) (hi := 0) (x_mem1 ⟨by omega, by omega⟩))) (x_mem2 (b := 0) (lo := 0) (hi := 0) (x_mem2 (b := 0) (lo := 0) (hi := 0) (x_mem1 ⟨by omega, by omega⟩)))) rfl
  refine q1 ⟨c1, c2⟩ c3 (by omega) _ fr ?_
  generalize hI : x_u (x_u (x_u (x_u (x_u I 179 0 0) 197 n (a : Int)) 198 n t) 201 n h) 179 55 ((n : Int) + 1) = I'
  have a1 : ∀ x, I' 197 x = if x = n then (a : Int) else I 197 x := fun x => by
    rw [← hI]
    show x_u I 197 n (a : Int) 197 x = _
    rw [x_u_eq]
    by_cases e : x = n
    · rw [if_pos ⟨rfl, e⟩, if_pos e]
    · rw [if_neg (fun h => e h.2), if_neg e]
  have a2 : ∀ x, I' 198 x = if x = n then t else I 198 x := fun x => by
    rw [← hI]
    show x_u I 198 n t 198 x = _
    rw [x_u_eq]
    by_cases e : x = n
    · rw [if_pos ⟨rfl, e⟩, if_pos e]
    · rw [if_neg (fun h => e h.2), if_neg e]
  have a3 : ∀ x, I' 201 x = if x = n then h else I 201 x := fun x => by
    rw [← hI]
    show x_u I 201 n h 201 x = _
    rw [x_u_eq]
    by_cases e : x = n
    · rw [if_pos ⟨rfl, e⟩, if_pos e]
    · rw [if_neg (fun h => e h.2), if_neg e]
  refine ⟨by rw [← hI]; rfl, by omega, fun x hx => ?_, fun b hb T t0 t1 => ?_⟩
  · rw [a1, a2, a3]
    by_cases e : x = n
    · rw [if_pos e, if_pos e, if_pos e]; exact ⟨⟨by omega, by omega⟩, c3, hh⟩
    · rw [if_neg e, if_neg e, if_neg e]; exact s3 x (by omega)
  · have key : (q_es1 es ((a : Int)).toNat t h b ≤ T ∧ T ≤ q_la1 la ((a : Int)).toNat t h b) ↔ ((es b ≤ T ∧ T ≤ la b) ∧ (b = a → (T ≤ t ↔ h = 1))) := by
      rw [show ((a : Int)).toNat = a by omega]
      unfold q_es1 q_la1
      by_cases h0 : h = 0
      · rw [if_pos h0, if_pos h0]
        unfold q_up
        by_cases e : b = a
        · rw [if_pos e, e]
          constructor
          · intro h; exact ⟨by omega, fun _ => by omega⟩
          · intro h; have := h.2 rfl; omega
        · rw [if_neg e]
          exact ⟨fun h => ⟨h, fun h => absurd h e⟩, fun h => h.1⟩
      · rw [if_neg h0, if_neg h0]
        unfold q_up
        by_cases e : b = a
        · rw [if_pos e, e]
          constructor
          · intro h; exact ⟨by omega, fun _ => by omega⟩
          · intro h; have := h.2 rfl; omega
        · rw [if_neg e]
          exact ⟨fun h => ⟨h, fun h => absurd h e⟩, fun h => h.1⟩
    rw [key, s4 b hb T t0 t1]
    constructor
    · intro ⟨h1, h2⟩ x hx
      rw [a1, a2, a3]
      by_cases e : x = n
      · rw [if_pos e, if_pos e, if_pos e]; exact fun h => h2 (by omega)
      · rw [if_neg e, if_neg e, if_neg e]; exact h1 x (by omega)
    · intro h1
      refine ⟨fun x hx => ?_, fun e => ?_⟩
      · have := h1 x (by omega)
        rw [a1, a2, a3, if_neg (by omega), if_neg (by omega), if_neg (by omega)] at this
        exact this
      · have := h1 n (by omega)
        rw [a1, a2, a3, if_pos rfl, if_pos rfl, if_pos rfl] at this
        exact this (by omega)
