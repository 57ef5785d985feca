/-! texts of an office: the pure reader; the class reads the items of a clause -/
def q_lea (kd : Int) (w : Nat) : Int := if kd = 115 then (if w = 1 then 0 else if w = 0 then 10 else 1) else 0
def q_mo2 (kd : Int) (w : Nat) : Int := if kd = 115 then (if w = 0 then 99 else if w = 2 then 5 else if w = 3 then 60 else 9) else (if w = 0 then 3 else if w = 3 then 99 else 9)
def q_us2 (kd : Int) (w : Nat) : Int := if kd = 115 then (if w = 0 then 60 else if w = 3 then 20 else 1) else (if w = 0 then 0 else if w = 2 then 2 else if w = 3 then 30 else 1)
theorem q_lm2 (kd : Int) (w : Nat) : (0 ≤ q_lea kd w ∧ q_lea kd w ≤ 10) ∧ 0 ≤ q_mo2 kd w ∧ q_mo2 kd w ≤ 99 := by
  unfold q_lea q_mo2
  by_cases c : kd = 115
  · rw [if_pos c, if_pos c]
    by_cases c0 : w = 0
    · rw [if_pos c0, if_pos c0, if_neg (show ¬ w = 1 by omega)]; omega
    · rw [if_neg c0, if_neg c0]
      by_cases c1 : w = 1
      · rw [if_pos c1]
        by_cases c2 : w = 2
        · omega
        · rw [if_neg c2]
          by_cases c3 : w = 3
          · omega
          · rw [if_neg c3]; omega
      · rw [if_neg c1]
        by_cases c2 : w = 2
        · rw [if_pos c2]; omega
        · rw [if_neg c2]
          by_cases c3 : w = 3
          · rw [if_pos c3]; omega
          · rw [if_neg c3]; omega
  · rw [if_neg c, if_neg c]
    by_cases c0 : w = 0
    · rw [if_pos c0]; omega
    · rw [if_neg c0]
      by_cases c3 : w = 3
      · rw [if_pos c3]; omega
      · rw [if_neg c3]; omega
def q_num (b : Nat → Int) (n : Nat) (lo hi : Int) (i : Nat) : Nat ⊕ (Nat × Int) := if q_dg b n 3 i = 0 then .inl i else if 2 < q_dg b n 3 i ∨ q_nv b i (q_dg b n 3 i) < lo ∨ hi < q_nv b i (q_dg b n 3 i) then .inl (i + q_dg b n 3 i - 1) else .inr (q_s b n (i + q_dg b n 3 i), q_nv b i (q_dg b n 3 i))
def q_bn (r : Nat ⊕ (Nat × Int)) (K : Nat → Int → Nat ⊕ (Nat × (Nat → Int))) : Nat ⊕ (Nat × (Nat → Int)) := match r with
  | .inl e => .inl e
  | .inr (j, v) => K j v
def q_its (b : Nat → Int) (n A : Nat) (kd : Int) : Nat → Nat → Nat → (Nat → Int) → Nat ⊕ (Nat × (Nat → Int))
  | 0, i, _, _ => .inl i
  | f + 1, i, t, V => if n ≤ i ∨ q_tk b n i = 59 then .inr (i, V) else if q_ix A (q_tk b n i) < 0 ∨ t.testBit (q_ix A (q_tk b n i)).toNat = true then .inl i else q_bn (q_num b n (q_lea kd (q_ix A (q_tk b n i)).toNat) (q_mo2 kd (q_ix A (q_tk b n i)).toNat) (q_s b n (i + 1))) (fun j v => q_its b n A kd f j (t ||| 2 ^ (q_ix A (q_tk b n i)).toNat) (q_up V (q_ix A (q_tk b n i)).toNat v))
def q_c5 (t : Nat) : Nat := (t.testBit 0).toNat + (t.testBit 1).toNat + (t.testBit 2).toNat + (t.testBit 3).toNat + (t.testBit 4).toNat
theorem q_c5_16 : ∀ t, t < 16 → q_c5 t ≤ 4 ∧ ∀ i, i < 4 → t.testBit i = false → q_c5 (t ||| 2 ^ i) = q_c5 t + 1 ∧ t ||| 2 ^ i < 16 := by decide +kernel
theorem q_c5_32 : ∀ t, t < 32 → q_c5 t ≤ 5 ∧ ∀ i, i < 5 → t.testBit i = false → q_c5 (t ||| 2 ^ i) = q_c5 t + 1 ∧ t ||| 2 ^ i < 32 := by decide +kernel
theorem q_ix_len (A : Nat) (z : Int) : -1 ≤ q_ix A z ∧ q_ix A z < ((q_strs A).length : Int) := by
  rcases q_ixl_rg (q_strs A) 0 z (Int.le_refl 0) with ⟨h, -⟩ | ⟨h1, h2, -⟩
  · unfold q_ix; rw [h]; omega
  · unfold q_ix; omega
def q_sta (I : Nat → Nat → Int) : Prop := (∀ w, w < 4 → I 5000 w = q_us2 115 w ∧ I 5002 w = q_lea 115 w ∧ I 5003 w = q_mo2 115 w) ∧ ∀ w, w < 5 → I 5001 w = q_us2 100 w ∧ I 5004 w = q_lea 100 w ∧ I 5005 w = q_mo2 100 w
theorem q_sta_fr {I I' : Nat → Nat → Int} (h : q_sta I) (hf : ∀ a k, 5000 ≤ a → I' a k = I a k) : q_sta I' := ⟨fun w hw => ⟨(hf _ _ (by omega)).trans (h.1 w hw).1, (hf _ _ (by omega)).trans (h.1 w hw).2.1, (hf _ _ (by omega)).trans (h.1 w hw).2.2⟩, fun w hw => ⟨(hf _ _ (by omega)).trans (h.2 w hw).1, (hf _ _ (by omega)).trans (h.2 w hw).2.1, (hf _ _ (by omega)).trans (h.2 w hw).2.2⟩⟩
def q_OT (I : Nat → Nat → Int) (b : Nat → Int) (n i : Nat) : Prop := I 3 = b ∧ I 2 1 = (n : Int) ∧ n ≤ 240 ∧ (∀ k, k < n → 1 ≤ b k ∧ b k ≤ 255) ∧ q_str I ∧ q_sta I ∧ I 4 2 = (i : Int) ∧ i ≤ n
theorem q_OT_0 {I : Nat → Nat → Int} {b : Nat → Int} {n i : Nat} (h : q_OT I b n i) : q_tk0 I := by
  obtain ⟨h1, h2, h3, h4, -⟩ := h
  refine ⟨by omega, by omega, fun k hk => ?_⟩
  rw [h1]; exact h4 k (by omega)
theorem q_OT_at {I : Nat → Nat → Int} {b : Nat → Int} {n i : Nat} (h : q_OT I b n i) (j : Nat) : q_at I (j : Int) = q_tk b n j := by
  obtain ⟨h1, h2, h3, h4, -⟩ := h
  unfold q_at q_tk
  rw [h1, h2]
  by_cases q : j < n
  · rw [if_pos (by omega), if_pos q]; rfl
  · rw [if_neg (by omega), if_neg q]
theorem q_OT_pb {I : Nat → Nat → Int} {b : Nat → Int} {n i : Nat} (h : q_OT I b n i) (j : Nat) : q_pb I (j : Int) = ((q_s b n j : Nat) : Int) := by
  obtain ⟨h1, h2, -⟩ := h
  unfold q_pb
  rw [h1, h2]; rfl
theorem q_OT_pb1 {I : Nat → Nat → Int} {b : Nat → Int} {n i : Nat} (h : q_OT I b n i) (j : Nat) : q_pb I ((j : Int) + 1) = ((q_s b n (j + 1) : Nat) : Int) := q_OT_pb h (j + 1)
abbrev q_fO : List (Nat × Nat × Nat) := [(4, 2, 3), (5, 3, 4), (6, 0, 4), (7, 0, 40)]
theorem x_fr_hi {S : List (Nat × Nat × Nat)} {I I' : Nat → Nat → Int} (hf : x_fr S I I') (hs : ∀ t ∈ S, t.1 < 5000) : ∀ a k, 5000 ≤ a → I' a k = I a k := fun a k ha => hf a k (by
  cases e : x_mem S a k with
  | false => rfl
  | true =>
    obtain ⟨t, m1, m2, -⟩ := (x_mem_iff _ a k).mp e
    have := hs t m1
    omega)
theorem q_OT_fr {I I' : Nat → Nat → Int} {b : Nat → Int} {n i j : Nat} (h : q_OT I b n i) (hf : x_fr q_fO I I') (h4 : I' 4 2 = (j : Int)) (hj : j ≤ n) : q_OT I' b n j := by
  obtain ⟨h1, h2, h3, hb, h5, h6, h7, h8⟩ := h
  have hi := x_fr_hi hf (by decide)
  exact ⟨by rw [← h1]; funext k; exact hf 3 k rfl, (hf 2 1 rfl).trans h2, h3, hb, q_str_fr (S := []) h5 hi, q_sta_fr h6 hi, h4, hj⟩
theorem q_OT_mv {I : Nat → Nat → Int} {b : Nat → Int} {n i j : Nat} (h : q_OT I b n i) (hj : j ≤ n) : q_OT (x_u I 4 2 (j : Int)) b n j := q_OT_fr h (x_fr_u (x_fr_refl _ _) rfl) (x_u_same _ _ _ _) hj
theorem s_oNumber {g : x_G} {k : Nat} {Q : x_Q} {I L : Nat → Nat → Int} {lp tp : Nat} {b : Nat → Int} {n i : Nat} {lo hi : Int} (hT : q_OT I b n i) (hlo : x_rg lo) (hhi : x_rg hi) (q1 : ∀ e, q_num b n lo hi i = .inl e → ∀ I', x_fr [(4, 2, 3)] I I' → I' 4 2 = (e : Int) → Q [x_i (-1)] (I', L, lp, tp)) (q2 : ∀ j v, q_num b n lo hi i = .inr (j, v) → lo ≤ v → v ≤ hi → j ≤ n → Q [x_i v] (x_u I 4 2 (j : Int), L, lp, tp)) : x_X g (k + 3) 61 [x_r 4, x_i lo, x_i hi] (I, L, lp, tp) Q := by
  have t0 := q_OT_0 hT
  obtain ⟨h1, h2, h3, h4, h5, h6, h7, h8⟩ := hT
  have hT : q_OT I b n i := ⟨h1, h2, h3, h4, h5, h6, h7, h8⟩
  have ed : q_dgI I (i : Int) 3 = ((q_dg b n 3 i : Nat) : Int) := by unfold q_dgI; rw [h1, h2]; rfl
  have d0 := q_dg_le b n 3 i
  have d1 := q_dg_n b n 3 i h8
  have hv := q_nv_rg (b := b) (i := i) (q_dg b n 3 i) (fun j hj => (q_dg_in b n 3 i j hj).2)
  have hv2 : q_nv b i (q_dg b n 3 i) < 1000 := by
    have : (10 ^ q_dg b n 3 i : Nat) ≤ 10 ^ 3 := Nat.pow_le_pow_right (n := 10) (by decide) d0
    have h2 := hv.2
    omega
  have en : q_nvI I (i : Int) ((q_dg b n 3 i : Nat) : Int) = q_nv b i (q_dg b n 3 i) := by unfold q_nvI; rw [h1]; rfl
  have ep := q_OT_pb hT (i + q_dg b n 3 i)
  have bad : ¬ q_dg b n 3 i = 0 → (2 < q_dg b n 3 i ∨ q_nv b i (q_dg b n 3 i) < lo ∨ hi < q_nv b i (q_dg b n 3 i)) → Q [x_i (-1)] (x_u I 4 2 ((i : Int) + (((q_dg b n 3 i : Nat) : Int) - 1)), L, lp, tp) := fun c0 c => q1 (i + q_dg b n 3 i - 1) (by unfold q_num; rw [if_neg c0, if_pos c]) _ (x_fr_u (x_fr_refl _ _) rfl) (by rw [x_u_same]; omega)
  refine v_oNumber (k := k) ?_
  rw [h7, ed, h2, en, show (i : Int) + ((q_dg b n 3 i : Nat) : Int) = ((i + q_dg b n 3 i : Nat) : Int) by omega, ep]
  refine ⟨t0, ⟨by omega, by omega⟩, ⟨by omega, by omega⟩, fun c => ⟨⟨by omega, by omega⟩, fun c1 => bad (by omega) (by omega), fun c1 => ⟨⟨by omega, by omega⟩, hlo, fun c2 => bad (by omega) (by omega), fun c2 => ⟨hhi, fun c3 => ⟨⟨by omega, by omega⟩, q2 _ _ ?_ c2 c3 (q_s_le d1)⟩, fun c3 => bad (by omega) (by omega)⟩⟩⟩, fun c => q1 i ?_ I (x_fr_refl _ _) h7⟩
  · unfold q_num; rw [if_neg (by omega), if_neg (by omega)]
  · unfold q_num; rw [if_pos (by omega)]
theorem x_sub_hd (S : List (Nat × Nat × Nat)) : x_sub [(4, 2, 3)] ((4, 2, 3) :: S) = true := rfl
theorem s_itS_L {g : x_G} {k : Nat} {Q : x_Q} {L : Nat → Nat → Int} {lp tp : Nat} {b : Nat → Int} {n : Nat} (I0 : Nat → Nat → Int) : ∀ (f i t : Nat) (V : Nat → Int) (I : Nat → Nat → Int), q_OT I b n i → (∀ x, x < 4 → I 6 x = V x) → t < 16 → q_c5 t + f = 5 → x_fr [(4, 2, 3), (6, 0, 4)] I0 I → (∀ e, q_its b n 5102 115 f i t V = .inl e → ∀ I', x_fr [(4, 2, 3), (6, 0, 4)] I0 I' → I' 4 2 = (e : Int) → Q [x_i 0] (I', L, lp, tp)) → (∀ j V', q_its b n 5102 115 f i t V = .inr (j, V') → ∀ I', x_fr [(4, 2, 3), (6, 0, 4)] I0 I' → q_OT I' b n j → (∀ x, x < 4 → I' 6 x = V' x) → Q [x_i 1] (I', L, lp, tp)) → x_S g (k + 3 + 6) 60 Q 13 [x_r 4, x_r 5102, x_r 5002, x_r 5003, x_r 6, x_i 0, x_i (t : Int), x_i ((q_c5 t : Nat) : Int), x_n, x_n] [] (I, L, lp, tp)
  | 0, i, t, V, I => fun _ _ ht hc => by have := (q_c5_16 t ht).1; omega
  | f + 1, i, t, V, I => fun hT hV ht hc hf q1 q2 => by
    have hc5 := (q_c5_16 t ht).1
    have t0 := q_OT_0 hT
    have ea := q_OT_at hT i
    have ep := q_OT_pb1 hT i
    have h21 := hT.2.1
    have h3 := hT.2.2.1
    have h42 := hT.2.2.2.2.2.2.1
    have h8 := hT.2.2.2.2.2.2.2
    have u : q_its b n 5102 115 (f + 1) i t V = if n ≤ i ∨ q_tk b n i = 59 then .inr (i, V) else if q_ix 5102 (q_tk b n i) < 0 ∨ t.testBit (q_ix 5102 (q_tk b n i)).toNat = true then .inl i else q_bn (q_num b n (q_lea 115 (q_ix 5102 (q_tk b n i)).toNat) (q_mo2 115 (q_ix 5102 (q_tk b n i)).toNat) (q_s b n (i + 1))) (fun j v => q_its b n 5102 115 f j (t ||| 2 ^ (q_ix 5102 (q_tk b n i)).toNat) (q_up V (q_ix 5102 (q_tk b n i)).toNat v)) := rfl
    rw [u] at q1 q2
    refine v_oItemsS_L13 (k := k + 3) ?_
    refine x_le (show 2 ≤ k + 3 by omega) (sm_slen5102 (k := 0) hT.2.2.2.2.1 ⟨_, rfl, ?_⟩)
    dsimp only
    rw [h42, h21, ea, ep]
    refine ⟨⟨by omega, by omega⟩, ⟨by omega, by omega⟩, fun c => by omega, fun _ => ⟨⟨by omega, by omega⟩, ⟨by omega, by omega⟩, fun c => ?_, fun c => ?_⟩⟩
    · rw [if_pos (Or.inl (by omega))] at q2
      exact q2 _ _ rfl I hf hT hV
    · have hin : i < n := by omega
      have etk : q_tk b n i = b i := if_pos hin
      have hb := hT.2.2.2.1 i hin
      have em : q_tk b n i % 65536 = q_tk b n i := by rw [etk]; omega
      rw [em]
      have hx : -1 ≤ q_ix 5102 (q_tk b n i) ∧ q_ix 5102 (q_tk b n i) < 4 := q_ix_len 5102 (q_tk b n i)
      refine ⟨t0, ⟨by omega, by omega⟩, fun c59 => ?_, fun c59 => ?_⟩
      · rw [if_neg (show ¬ (n ≤ i ∨ q_tk b n i = 59) by omega)] at q1 q2
        refine ⟨hT.2.2.2.2.1, ⟨by omega, by omega⟩, ⟨by omega, by omega⟩, fun c1 => ?_, fun c1 => ⟨⟨by omega, by omega⟩, ⟨by omega, by omega⟩, fun c2 => ?_, fun c2 => ⟨⟨by omega, by omega⟩, ⟨by omega, by omega⟩, ?_⟩⟩⟩
        · rw [if_pos (Or.inl c1)] at q1
          exact q1 _ rfl I hf h42
        · have c2' : t.testBit (q_ix 5102 (q_tk b n i)).toNat = true := c2
          rw [if_pos (Or.inr c2')] at q1
          exact q1 _ rfl I hf h42
        · have c2' : ¬ t.testBit (q_ix 5102 (q_tk b n i)).toNat = true := c2
          rw [if_neg (fun h => h.elim (fun h => by omega) c2')] at q1 q2
          obtain ⟨a, ha⟩ := Int.eq_ofNat_of_zero_le c1
          rw [ha] at q1 q2 c2' hx ⊢
          rw [show ((a : Int)).toNat = a by omega] at q1 q2 c2' ⊢
          have sa := hT.2.2.2.2.2.1.1 a (by omega)
          rw [sa.2.1, sa.2.2]
          have lm := q_lm2 115 a
          obtain ⟨o1, o2⟩ := q_or1 t a (by omega) (by omega)
          obtain ⟨k1, k2⟩ := (q_c5_16 t ht).2 a (by omega) (by cases e : t.testBit a with
            | false => rfl
            | true => exact absurd e c2')
          refine x_le (show 3 ≤ k + 3 by omega) (s_oNumber (k := 0) (q_OT_mv hT (q_s_le (show i + 1 ≤ n by omega))) ⟨by omega, by omega⟩ ⟨by omega, by omega⟩ (fun e he I' f' e4 => ⟨_, rfl, ⟨by omega, by omega⟩, fun h => absurd rfl h, fun _ => ?_⟩) (fun j v hv v1 v2 hj => ⟨_, rfl, ⟨by omega, by omega⟩, fun _ => ⟨⟨by omega, by omega⟩, ?_⟩, fun h => by omega⟩))
          · rw [he] at q1
            exact q1 _ rfl I' (x_fr_trans (x_fr_u hf rfl) (x_fr_mono f' rfl)) e4
          · rw [hv] at q1 q2
            dsimp only
            rw [o1, show (0 + (a : Int)).toNat = a by omega, show ((q_c5 t : Nat) : Int) + 1 = ((q_c5 (t ||| 2 ^ a) : Nat) : Int) by omega]
            refine s_itS_L I0 f j (t ||| 2 ^ a) (q_up V a v) _ (q_OT_fr (q_OT_mv (q_OT_mv hT (q_s_le (show i + 1 ≤ n by omega))) hj) (x_fr_u (k := a) (x_fr_refl _ _) (x_mem2 (b := 0) (lo := 0) (hi := 0) (x_mem2 (b := 0) (lo := 0) (hi := 0) (x_mem1 ⟨by omega, by omega⟩)))) (x_u_ne _ _ (by omega)) hj) (fun x hx' => ?_) k2 (by omega) (x_fr_u (k := a) (x_fr_u (x_fr_u hf rfl) rfl) (x_mem2 (b := 0) (lo := 0) (hi := 0) (x_mem1 ⟨by omega, by omega⟩))) q1 q2
            by_cases c : x = a
            · subst c
              rw [x_u_same]; exact q_up_at.symm
            · rw [x_u_ne _ _ (by omega), x_u_ne _ _ (by omega), x_u_ne _ _ (by omega), hV x hx']
              exact (q_up_ne c).symm
      · rw [if_pos (Or.inr c59)] at q2
        exact q2 _ _ rfl I hf hT hV
theorem s_itD_L {g : x_G} {k : Nat} {Q : x_Q} {L : Nat → Nat → Int} {lp tp : Nat} {b : Nat → Int} {n r : Nat} (hr : r < 8) (I0 : Nat → Nat → Int) : ∀ (f i t : Nat) (V : Nat → Int) (I : Nat → Nat → Int), q_OT I b n i → (∀ x, x < 5 → I 7 (5 * r + x) = V x) → t < 32 → q_c5 t + f = 6 → x_fr [(4, 2, 3), (7, 5 * r, 5 * r + 5)] I0 I → (∀ e, q_its b n 5103 100 f i t V = .inl e → ∀ I', x_fr [(4, 2, 3), (7, 5 * r, 5 * r + 5)] I0 I' → I' 4 2 = (e : Int) → Q [x_i 0] (I', L, lp, tp)) → (∀ j V', q_its b n 5103 100 f i t V = .inr (j, V') → ∀ I', x_fr [(4, 2, 3), (7, 5 * r, 5 * r + 5)] I0 I' → q_OT I' b n j → (∀ x, x < 5 → I' 7 (5 * r + x) = V' x) → Q [x_i 1] (I', L, lp, tp)) → x_S g (k + 3 + 6) 60 Q 13 [x_r 4, x_r 5103, x_r 5004, x_r 5005, x_r 7, x_i (5 * (r : Int)), x_i (t : Int), x_i ((q_c5 t : Nat) : Int), x_n, x_n] [] (I, L, lp, tp)
  | 0, i, t, V, I => fun _ _ ht hc => by have := (q_c5_32 t ht).1; omega
  | f + 1, i, t, V, I => fun hT hV ht hc hf q1 q2 => by
    have hc5 := (q_c5_32 t ht).1
    have t0 := q_OT_0 hT
    have ea := q_OT_at hT i
    have ep := q_OT_pb1 hT i
    have h21 := hT.2.1
    have h3 := hT.2.2.1
    have h42 := hT.2.2.2.2.2.2.1
    have h8 := hT.2.2.2.2.2.2.2
    have u : q_its b n 5103 100 (f + 1) i t V = if n ≤ i ∨ q_tk b n i = 59 then .inr (i, V) else if q_ix 5103 (q_tk b n i) < 0 ∨ t.testBit (q_ix 5103 (q_tk b n i)).toNat = true then .inl i else q_bn (q_num b n (q_lea 100 (q_ix 5103 (q_tk b n i)).toNat) (q_mo2 100 (q_ix 5103 (q_tk b n i)).toNat) (q_s b n (i + 1))) (fun j v => q_its b n 5103 100 f j (t ||| 2 ^ (q_ix 5103 (q_tk b n i)).toNat) (q_up V (q_ix 5103 (q_tk b n i)).toNat v)) := rfl
    rw [u] at q1 q2
    refine v_oItemsD_L13 (k := k + 3) ?_
    refine x_le (show 2 ≤ k + 3 by omega) (sm_slen5103 (k := 0) hT.2.2.2.2.1 ⟨_, rfl, ?_⟩)
    dsimp only
    rw [h42, h21, ea, ep]
    refine ⟨⟨by omega, by omega⟩, ⟨by omega, by omega⟩, fun c => by omega, fun _ => ⟨⟨by omega, by omega⟩, ⟨by omega, by omega⟩, fun c => ?_, fun c => ?_⟩⟩
    · rw [if_pos (Or.inl (by omega))] at q2
      exact q2 _ _ rfl I hf hT hV
    · have hin : i < n := by omega
      have etk : q_tk b n i = b i := if_pos hin
      have hb := hT.2.2.2.1 i hin
      have em : q_tk b n i % 65536 = q_tk b n i := by rw [etk]; omega
      rw [em]
      have hx : -1 ≤ q_ix 5103 (q_tk b n i) ∧ q_ix 5103 (q_tk b n i) < 5 := q_ix_len 5103 (q_tk b n i)
      refine ⟨t0, ⟨by omega, by omega⟩, fun c59 => ?_, fun c59 => ?_⟩
      · rw [if_neg (show ¬ (n ≤ i ∨ q_tk b n i = 59) by omega)] at q1 q2
        refine ⟨hT.2.2.2.2.1, ⟨by omega, by omega⟩, ⟨by omega, by omega⟩, fun c1 => ?_, fun c1 => ⟨⟨by omega, by omega⟩, ⟨by omega, by omega⟩, fun c2 => ?_, fun c2 => ⟨⟨by omega, by omega⟩, ⟨by omega, by omega⟩, ?_⟩⟩⟩
        · rw [if_pos (Or.inl c1)] at q1
          exact q1 _ rfl I hf h42
        · have c2' : t.testBit (q_ix 5103 (q_tk b n i)).toNat = true := c2
          rw [if_pos (Or.inr c2')] at q1
          exact q1 _ rfl I hf h42
        · have c2' : ¬ t.testBit (q_ix 5103 (q_tk b n i)).toNat = true := c2
          rw [if_neg (fun h => h.elim (fun h => by omega) c2')] at q1 q2
          obtain ⟨a, ha⟩ := Int.eq_ofNat_of_zero_le c1
          rw [ha] at q1 q2 c2' hx ⊢
          rw [show ((a : Int)).toNat = a by omega] at q1 q2 c2' ⊢
          have sa := hT.2.2.2.2.2.1.2 a (by omega)
          rw [sa.2.1, sa.2.2]
          have lm := q_lm2 100 a
          obtain ⟨o1, o2⟩ := q_or1 t a (by omega) (by omega)
          obtain ⟨k1, k2⟩ := (q_c5_32 t ht).2 a (by omega) (by cases e : t.testBit a with
            | false => rfl
            | true => exact absurd e c2')
          refine x_le (show 3 ≤ k + 3 by omega) (s_oNumber (k := 0) (q_OT_mv hT (q_s_le (show i + 1 ≤ n by omega))) ⟨by omega, by omega⟩ ⟨by omega, by omega⟩ (fun e he I' f' e4 => ⟨_, rfl, ⟨by omega, by omega⟩, fun h => absurd rfl h, fun _ => ?_⟩) (fun j v hv v1 v2 hj => ⟨_, rfl, ⟨by omega, by omega⟩, fun _ => ⟨⟨by omega, by omega⟩, ?_⟩, fun h => by omega⟩))
          · rw [he] at q1
            exact q1 _ rfl I' (x_fr_trans (x_fr_u hf rfl) (x_fr_mono f' (x_sub_hd _))) e4
          · rw [hv] at q1 q2
            dsimp only
            rw [o1, show ((5 * (r : Int)) + (a : Int)).toNat = (5 * r + a) by omega, show ((q_c5 t : Nat) : Int) + 1 = ((q_c5 (t ||| 2 ^ a) : Nat) : Int) by omega]
            refine s_itD_L hr I0 f j (t ||| 2 ^ a) (q_up V a v) _ (q_OT_fr (q_OT_mv (q_OT_mv hT (q_s_le (show i + 1 ≤ n by omega))) hj) (x_fr_u (k := (5 * r + a)) (x_fr_refl _ _) (x_mem2 (b := 0) (lo := 0) (hi := 0) (x_mem2 (b := 0) (lo := 0) (hi := 0) (x_mem2 (b := 0) (lo := 0) (hi := 0) (x_mem1 ⟨by omega, by omega⟩))))) (x_u_ne _ _ (by omega)) hj) (fun x hx' => ?_) k2 (by omega) (x_fr_u (k := (5 * r + a)) (x_fr_u (x_fr_u hf rfl) rfl) (x_mem2 (b := 0) (lo := 0) (hi := 0) (x_mem1 ⟨by omega, by omega⟩))) q1 q2
            by_cases c : x = a
            · subst c
              rw [x_u_same]; exact q_up_at.symm
            · rw [x_u_ne _ _ (by omega), x_u_ne _ _ (by omega), x_u_ne _ _ (by omega), hV x hx']
              exact (q_up_ne c).symm
      · rw [if_pos (Or.inr c59)] at q2
        exact q2 _ _ rfl I hf hT hV
