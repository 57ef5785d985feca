/-! the reference reads an office: numbers, items -/
def q_OM (I : Nat → Nat → Int) (b : Nat → Int) (n : Nat) : Prop := I 179 8 = 0 ∧ I 179 9 = (n : Int) ∧ n ≤ 240 ∧ (∀ j, j < n → I 180 j % 256 = b j ∧ -128 ≤ I 180 j ∧ I 180 j ≤ 127) ∧ (∀ j, j < n → 1 ≤ b j ∧ b j ≤ 255) ∧ q_str I
theorem q_OM_MB {I : Nat → Nat → Int} {b : Nat → Int} {n : Nat} (h : q_OM I b n) : q_MB I 180 b n (fun j => if j = 0 then I 183 109 else if j = 1 then I 183 104 else if j = 2 then I 183 102 else if j = 3 then I 183 100 else if j = 4 then I 183 107 else I 183 110) := by
  obtain ⟨h1, h2, h3, h4, h5, h6⟩ := h
  refine ⟨Or.inl rfl, by omega, h2, h3, by rw [if_pos rfl]; omega, fun j hj => ?_, fun j hj => ?_, h5, ⟨rfl, rfl, rfl, rfl, rfl, rfl⟩, h6⟩
  · unfold q_bm
    rw [h1]
    show I 180 (0 + j) % 256 = b j
    rw [Nat.zero_add]
    exact (h4 j hj).1
  · rw [h1]
    show -128 ≤ I 180 (0 + j) ∧ I 180 (0 + j) ≤ 127
    rw [Nat.zero_add]
    exact (h4 j hj).2
abbrev q_fOm : List (Nat × Nat × Nat) := [(179, 10, 12), (179, 25, 26), (179, 27, 28), (185, 0, 4), (187, 0, 40)]
theorem q_OM_fr {I I' : Nat → Nat → Int} {b : Nat → Int} {n : Nat} (h : q_OM I b n) (hf : x_fr q_fOm I I') : q_OM I' b n := by
  obtain ⟨h1, h2, h3, h4, h5, h6⟩ := h
  exact ⟨(hf _ _ rfl).trans h1, (hf _ _ rfl).trans h2, h3, fun j hj => by rw [hf 180 j rfl]; exact h4 j hj, h5, q_str_fr (S := []) h6 (x_fr_hi hf (by decide))⟩
theorem q_OL {I : Nat → Nat → Int} {b : Nat → Int} {n a : Nat} (h : q_OM I b n) (h10 : I 179 10 = (a : Int)) (ha : a ≤ n) : q_lk0 I 180 ∧ q_lkA I 180 = ((q_s b n a : Nat) : Int) ∧ q_lkV I 180 = q_tk b n (q_s b n a) ∧ q_s b n a ≤ n ∧ -1 ≤ q_tk b n (q_s b n a) ∧ q_tk b n (q_s b n a) ≤ 255 := by
  have hB := q_OM_MB h
  have hl := q_MB_lk hB h10 ha
  obtain ⟨h1, h2, h3, h4, h5, h6, h7, h8, -⟩ := hB
  have hN : q_lkN I 180 = q_s b n a := by
    unfold q_lkN
    rw [h3, h10]
    show q_s (q_bm I 180) n a = _
    rw [q_s_congr h6]
  refine ⟨hl, by unfold q_lkA; rw [hN], ?_, q_s_le ha, ?_⟩
  · unfold q_lkV
    rw [hN, h3]
    exact q_tk_congr h6 _
  · unfold q_tk
    by_cases q : q_s b n a < n
    · rw [if_pos q]; have := h8 _ q; omega
    · rw [if_neg q]; omega
theorem q_OD {I : Nat → Nat → Int} {b : Nat → Int} {n a : Nat} (h : q_OM I b n) (h10 : I 179 10 = (a : Int)) : q_isD I 180 ↔ (a < n ∧ 48 ≤ b a ∧ b a ≤ 57) := q_isD_eq (q_OM_MB h) h10
theorem m_number {g : x_G} {k : Nat} {Q : x_Q} {I L : Nat → Nat → Int} {lp : Nat} {b : Nat → Int} {n a : Nat} {lo hi : Int} (hM : q_OM I b n) (h10 : I 179 10 = (a : Int)) (ha : a ≤ n) (h11 : I 179 11 = -1) (hlo : x_rg lo) (hhi : x_rg hi) (q1 : ∀ e, q_num b n lo hi (q_s b n a) = .inl e → e ≤ n → ∀ z I', x_fr [(179, 10, 12)] I I' → I' 179 11 = (e : Int) → Q [x_i z] (I', L, lp, 180)) (q2 : ∀ j v, q_num b n lo hi (q_s b n a) = .inr (j, v) → ∀ I' a', x_fr [(179, 10, 12)] I I' → I' 179 11 = -1 → I' 179 10 = ((a' : Nat) : Int) → a' ≤ n → q_s b n a' = j → Q [x_i v] (I', L, lp, 180)) : x_X g (k + 3) 213 [x_r 179, x_i lo, x_i hi] (I, L, lp, 180) Q := by
  obtain ⟨l0, lA, lV, li, lt⟩ := q_OL hM h10 ha
  generalize hi' : q_s b n a = i at *
  have f1 : ∀ z : Int, x_fr [(179, 10, 12)] I (x_u I 179 10 z) := fun z => x_fr_u (x_fr_refl _ _) rfl
  have M1 : ∀ z : Int, q_OM (x_u I 179 10 z) b n := fun z => q_OM_fr hM (x_fr_mono (f1 z) rfl)
  have f2 : ∀ z z' : Int, x_fr [(179, 10, 12)] I (x_u (x_u I 179 10 z) 179 10 z') := fun z z' => x_fr_u (f1 z) rfl
  have M2 : ∀ z z' : Int, q_OM (x_u (x_u I 179 10 z) 179 10 z') b n := fun z z' => q_OM_fr hM (x_fr_mono (f2 z z') rfl)
  have f3 : ∀ z z' z'' : Int, x_fr [(179, 10, 12)] I (x_u (x_u (x_u I 179 10 z) 179 10 z') 179 10 z'') := fun z z' z'' => x_fr_u (f2 z z') rfl
  have M3 : ∀ z z' z'' : Int, q_OM (x_u (x_u (x_u I 179 10 z) 179 10 z') 179 10 z'') b n := fun z z' z'' => q_OM_fr hM (x_fr_mono (f3 z z' z'') rfl)
  have dg : q_dg b n 3 i = if i < n ∧ 48 ≤ b i ∧ b i ≤ 57 then q_dg b n 2 (i + 1) + 1 else 0 := rfl
  have dg2 : q_dg b n 2 (i + 1) = if i + 1 < n ∧ 48 ≤ b (i + 1) ∧ b (i + 1) ≤ 57 then q_dg b n 1 (i + 2) + 1 else 0 := rfl
  have dg1 : q_dg b n 1 (i + 2) = if i + 2 < n ∧ 48 ≤ b (i + 2) ∧ b (i + 2) ≤ 57 then 1 else 0 := rfl
  have nv1 : q_nv b i 1 = b i - 48 := by show 10 * 0 + b (i + 0) - 48 = _; rw [Nat.add_zero]; omega
  have nv2 : q_nv b i 2 = 10 * (b i - 48) + b (i + 1) - 48 := by show 10 * q_nv b i 1 + b (i + 1) - 48 = _; rw [nv1]
  have n9 := hM.2.1
  have n3 := hM.2.2.1
  refine v_mNumber (k := k + 1) ?_
  rw [lA, lV, n9, hM.1]
  refine ⟨l0, (q_OL (M1 _) (x_u_same _ _ _ _) li).1, fun c => ?_, fun c => ?_⟩
  · have c' := (q_OD (M1 _) (x_u_same _ _ _ _)).mp c
    rw [if_pos c'] at dg
    have etk : q_tk b n i = b i := if_pos c'.1
    rw [etk]
    have e1 : (i : Int) + 1 = ((i + 1 : Nat) : Int) := by omega
    refine ⟨(q_OL (M2 _ _) ((x_u_same _ _ _ _).trans e1) (show i + 1 ≤ n by omega)).1, fun c2 => ?_, fun c2 => ?_⟩
    · have c2' := (q_OD (M2 _ _) ((x_u_same _ _ _ _).trans e1)).mp c2
      rw [if_pos c2'] at dg2
      have e2 : (i : Int) + 1 + 1 = ((i + 2 : Nat) : Int) := by omega
      refine ⟨⟨by omega, by omega⟩, ⟨by omega, by omega⟩, fun c3 => by omega, fun c3 => ⟨rfl, ⟨by omega, by show _ < (240 : Int); omega⟩, (q_OL (M3 _ _ _) ((x_u_same _ _ _ _).trans e2) (show i + 2 ≤ n by omega)).1, fun c4 => ?_, fun c4 => ?_⟩⟩
      · have c4' := (q_OD (M3 _ _ _) ((x_u_same _ _ _ _).trans e2)).mp c4
        rw [if_pos c4'] at dg1
        refine x_le (show 1 ≤ k + 1 by omega) (s_failsE (k := 0) (h11) ⟨_, rfl, ?_⟩)
        refine q1 (i + 2) ?_ (by omega) _ _ (x_fr_u (f3 _ _ _) rfl) (by rw [x_u_same, x_u_same]; omega)
        unfold q_num
        rw [if_neg (by omega), if_pos (Or.inl (by omega)), show i + q_dg b n 3 i - 1 = i + 2 by omega]
      · have c4' : ¬ (i + 2 < n ∧ 48 ≤ b (i + 2) ∧ b (i + 2) ≤ 57) := fun h => c4 ((q_OD (M3 _ _ _) ((x_u_same _ _ _ _).trans e2)).mpr h)
        rw [if_neg c4'] at dg1
        have ed : q_dg b n 3 i = 2 := by omega
        have eb : x_and ((x_u (x_u I 179 10 (i : Int)) 179 10 ((i : Int) + 1)) 180 (0 + ((i : Int) + 1)).toNat) 255 = b (i + 1) := by
          rw [q_and255, show (0 + ((i : Int) + 1)).toNat = i + 1 by omega]
          exact (hM.2.2.2.1 (i + 1) c2'.1).1
        rw [eb, show 10 * (b i - 48) + b (i + 1) - 48 = q_nv b i 2 from nv2.symm]
        have b1 := hM.2.2.2.2.1 i c'.1
        have b2 := hM.2.2.2.2.1 (i + 1) c2'.1
        refine ⟨⟨by omega, by omega⟩, hlo, hhi, fun c5 => ?_, fun c5 => ?_⟩
        · refine q2 (q_s b n (i + 2)) _ ?_ _ (i + 2) (f3 _ _ _) h11 ((x_u_same _ _ _ _).trans e2) (by omega) rfl
          unfold q_num
          rw [ed, if_neg (by omega), if_neg (by omega)]
        · refine x_le (show 1 ≤ k + 1 by omega) (s_failsE (k := 0) (h11) ⟨_, rfl, ?_⟩)
          refine q1 (i + 1) ?_ (by omega) _ _ (x_fr_u (x_fr_u (f3 _ _ _) rfl) rfl) (by rw [x_u_same, x_u_same]; omega)
          unfold q_num
          rw [ed, if_neg (by omega), if_pos (by omega), show i + 2 - 1 = i + 1 by omega]
    · have c2' : ¬ (i + 1 < n ∧ 48 ≤ b (i + 1) ∧ b (i + 1) ≤ 57) := fun h => c2 ((q_OD (M2 _ _) ((x_u_same _ _ _ _).trans e1)).mpr h)
      rw [if_neg c2'] at dg2
      have ed : q_dg b n 3 i = 1 := by omega
      have b1 := hM.2.2.2.2.1 i c'.1
      rw [show b i - 48 = q_nv b i 1 from nv1.symm]
      refine ⟨⟨by omega, by omega⟩, hlo, hhi, fun c5 => ?_, fun c5 => ?_⟩
      · refine q2 (q_s b n (i + 1)) _ ?_ _ (i + 1) (f2 _ _) h11 ((x_u_same _ _ _ _).trans e1) (by omega) rfl
        unfold q_num
        rw [ed, if_neg (by omega), if_neg (by omega)]
      · refine x_le (show 1 ≤ k + 1 by omega) (s_failsE (k := 0) (h11) ⟨_, rfl, ?_⟩)
        refine q1 i ?_ (by omega) _ _ (x_fr_u (x_fr_u (f2 _ _) rfl) rfl) (by rw [x_u_same, x_u_same]; omega)
        unfold q_num
        rw [ed, if_neg (by omega), if_pos (by omega), show i + 1 - 1 = i by omega]
  · have c' : ¬ (i < n ∧ 48 ≤ b i ∧ b i ≤ 57) := fun h => c ((q_OD (M1 _) (x_u_same _ _ _ _)).mpr h)
    rw [if_neg c'] at dg
    refine x_le (show 1 ≤ k + 1 by omega) (s_failsE (k := 0) (h11) ⟨_, rfl, ?_⟩)
    refine q1 i ?_ li _ _ (x_fr_u (f1 _) rfl) (by rw [x_u_same, x_u_same])
    unfold q_num
    rw [if_pos dg]
theorem m_most {g : x_G} {k : Nat} {Q : x_Q} {w : x_W} {kd : Int} {a : Nat} (hk : kd = 115 ∨ kd = 100) (ha : a < 5) (hq : Q [x_i (q_mo2 kd a)] w) : x_X g (k + 1) 214 [x_i kd, x_i (a : Int)] w Q := by
  obtain ⟨I, L, lp, tp⟩ := w
  refine v_mmostOf (k := k) ?_
  unfold q_mo2 at hq
  rcases hk with rfl | rfl
  · rw [if_pos rfl] at hq
    refine ⟨by decide, fun h => absurd rfl h, fun _ => ⟨⟨by omega, by omega⟩, fun c => ⟨fun c1 => ⟨fun c2 => ?_, fun c2 => ?_⟩, fun c1 => ?_⟩, fun c => ?_⟩⟩
    · rw [if_neg (by omega), if_neg (by omega), if_neg (by omega)] at hq; exact hq
    · rw [if_neg (by omega), if_neg (by omega), if_pos (by omega)] at hq; exact hq
    · rw [if_neg (by omega), if_pos (by omega)] at hq; exact hq
    · rw [if_pos (by omega)] at hq; exact hq
  · rw [if_neg (by decide)] at hq
    refine ⟨by decide, fun _ => ⟨⟨by omega, by omega⟩, fun c => ⟨fun c1 => ?_, fun c1 => ?_⟩, fun c => ?_⟩, fun h => absurd h (by decide)⟩
    · rw [if_neg (by omega), if_neg (by omega)] at hq; exact hq
    · rw [if_neg (by omega), if_pos (by omega)] at hq; exact hq
    · rw [if_pos (by omega)] at hq; exact hq
theorem m_least {g : x_G} {k : Nat} {Q : x_Q} {w : x_W} {kd : Int} {a : Nat} (hk : kd = 115 ∨ kd = 100) (ha : a < 5) (hq : Q [x_i (q_lea kd a)] w) : x_X g (k + 1) 215 [x_i kd, x_i (a : Int)] w Q := by
  obtain ⟨I, L, lp, tp⟩ := w
  refine v_mleastOf (k := k) ?_
  unfold q_lea at hq
  rcases hk with rfl | rfl
  · rw [if_pos rfl] at hq
    refine ⟨by decide, fun h => absurd rfl h, fun _ => ⟨⟨by omega, by omega⟩, fun c => ⟨fun c1 => ?_, fun c1 => ?_⟩, fun c => ?_⟩⟩
    · rw [if_neg (by omega), if_neg (by omega)] at hq; exact hq
    · rw [if_neg (by omega), if_pos (by omega)] at hq; exact hq
    · rw [if_pos (by omega)] at hq; exact hq
  · rw [if_neg (by decide)] at hq
    exact ⟨by decide, fun _ => hq, fun h => absurd h (by decide)⟩
theorem m_usual {g : x_G} {k : Nat} {Q : x_Q} {w : x_W} {kd : Int} {a : Nat} (hk : kd = 115 ∨ kd = 100) (ha : a < 5) (hq : Q [x_i (q_us2 kd a)] w) : x_X g (k + 1) 216 [x_i kd, x_i (a : Int)] w Q := by
  obtain ⟨I, L, lp, tp⟩ := w
  refine v_musual (k := k) ?_
  unfold q_us2 at hq
  rcases hk with rfl | rfl
  · rw [if_pos rfl] at hq
    refine ⟨by decide, fun h => absurd rfl h, fun _ => ⟨⟨by omega, by omega⟩, fun c => ⟨fun c1 => ?_, fun c1 => ?_⟩, fun c => ?_⟩⟩
    · rw [if_neg (by omega), if_neg (by omega)] at hq; exact hq
    · rw [if_neg (by omega), if_pos (by omega)] at hq; exact hq
    · rw [if_pos (by omega)] at hq; exact hq
  · rw [if_neg (by decide)] at hq
    refine ⟨by decide, fun _ => ⟨⟨by omega, by omega⟩, fun c => ⟨fun c1 => ⟨fun c2 => ?_, fun c2 => ?_⟩, fun c1 => ?_⟩, fun c => ?_⟩, fun h => absurd h (by decide)⟩
    · rw [if_neg (by omega), if_neg (by omega), if_neg (by omega)] at hq; exact hq
    · rw [if_neg (by omega), if_neg (by omega), if_pos (by omega)] at hq; exact hq
    · rw [if_neg (by omega), if_pos (by omega)] at hq; exact hq
    · rw [if_pos (by omega)] at hq; exact hq
theorem x_sub_hm (S : List (Nat × Nat × Nat)) : x_sub [(179, 10, 12)] ((179, 10, 12) :: S) = true := rfl
theorem q_fDr {I I1 : Nat → Nat → Int} {r : Nat} (hr : r < 8) (h : x_fr [(179, 10, 12), (187, 5 * r, 5 * r + 5)] I I1) : x_fr q_fOm I I1 := fun a x hm => h a x (by
  cases e : x_mem [(179, 10, 12), (187, 5 * r, 5 * r + 5)] a x with
  | false => rfl
  | true =>
    obtain ⟨t, m1, m2, m3, m4⟩ := (x_mem_iff _ a x).mp e
    rcases List.mem_cons.mp m1 with rfl | m1
    · rw [show x_mem q_fOm a x = true from x_memI (179, 10, 12) (by decide) m2 m3 m4] at hm; cases hm
    · rcases List.mem_cons.mp m1 with rfl | m1
      · dsimp only at m4
        rw [show x_mem q_fOm a x = true from x_memI (187, 0, 40) (by decide) m2 (Nat.zero_le _) (show x < 40 by omega)] at hm; cases hm
      · cases m1)
theorem m_itS_L {g : x_G} {k : Nat} {Q : x_Q} {L : Nat → Nat → Int} {lp : Nat} {b : Nat → Int} {n : Nat} (I0 : Nat → Nat → Int) : ∀ (f i t : Nat) (V : Nat → Int) (I : Nat → Nat → Int), q_OM I b n → I 179 10 = (i : Int) → i ≤ n → q_s b n i = i → I 179 11 = -1 → (∀ x, x < 4 → I 185 x = V x) → t < 16 → q_c5 t + f = 5 → x_fr [(179, 10, 12), (185, 0, 4)] I0 I → (∀ e, q_its b n 5102 115 f i t V = .inl e → e ≤ n → ∀ I', x_fr [(179, 10, 12), (185, 0, 4)] I0 I' → I' 179 11 = (e : Int) → Q [] (I', L, lp, 180)) → (∀ j V', q_its b n 5102 115 f i t V = .inr (j, V') → j ≤ n → ∀ I', x_fr [(179, 10, 12), (185, 0, 4)] I0 I' → I' 179 11 = -1 → I' 179 10 = (j : Int) → q_s b n j = j → (∀ x, x < 4 → I' 185 x = V' x) → Q [] (I', L, lp, 180)) → (∀ e, q_its b n 5102 115 f i t V = .inl e → e < n → ¬ q_tk b n e = 59 → ∀ I', x_fr [(179, 10, 12), (185, 0, 4)] I0 I' → I' 179 11 = -1 → I' 179 10 = (e : Int) → q_s b n e = e → Q [] (I', L, lp, 180)) → x_S g (k + 3 + 6) 217 Q 23 [x_r 179, x_i 115, x_r 185, x_i 0, x_r 5102, x_i (t : Int), x_i (q_ix 5102 (q_tk b n i))] [] (I, L, lp, 180)
  | 0, i, t, V, I => fun _ _ _ _ _ _ ht hc => by have := (q_c5_16 t ht).1; omega
  | f + 1, i, t, V, I => fun hM h10 hi his h11 hV ht hc hf q1 q2 q3 => by
    have hc5 := (q_c5_16 t ht).1
    have n3 := hM.2.2.1
    rw [q_its_s] at q1 q2 q3
    have hx : -1 ≤ q_ix 5102 (q_tk b n i) ∧ q_ix 5102 (q_tk b n i) < 4 := q_ix_len 5102 (q_tk b n i)
    refine v_mItemsS_L23 (k := k + 3) ⟨⟨by omega, by omega⟩, fun c => ?_, fun c => ?_⟩
    · by_cases c1 : n ≤ i ∨ q_tk b n i = 59
      · rw [if_pos c1] at q2
        exact q2 _ _ rfl hi I hf h11 h10 his hV
      · rw [if_neg c1, if_pos (Or.inl (by omega))] at q3
        exact q3 _ rfl (by omega) (by omega) I hf h11 h10 his
    · have c1 : ¬ (n ≤ i ∨ q_tk b n i = 59) := fun h => c (by
        rcases h with h | h
        · rw [show q_tk b n i = -1 from if_neg (by omega)]; decide
        · rw [h]; decide)
      have hin : i < n := by omega
      rw [if_neg c1] at q1 q2 q3
      obtain ⟨a, ha⟩ := Int.eq_ofNat_of_zero_le (show 0 ≤ q_ix 5102 (q_tk b n i) by omega)
      rw [ha] at q1 q2 q3 hx ⊢
      rw [show ((a : Int)).toNat = a by omega] at q1 q2 q3 ⊢
      rw [h11]
      refine ⟨by decide, fun h => absurd rfl h, fun _ => ⟨⟨by omega, by omega⟩, ⟨by omega, by omega⟩, fun c2 => ?_, fun c2 => ?_⟩⟩
      · have c2' : t.testBit a = true := c2
        rw [if_pos (Or.inr c2')] at q1
        refine x_le (show 1 ≤ k + 3 by omega) (s_failsE (k := 0) h11 ⟨_, rfl, ?_⟩)
        exact q1 _ rfl hi _ (x_fr_u hf rfl) ((x_u_same _ _ _ _).trans h10)
      · have c2' : ¬ t.testBit a = true := c2
        rw [if_neg (fun h => h.elim (fun h => by omega) c2')] at q1 q2 q3
        have lm := q_lm2 115 a
        obtain ⟨o1, o2⟩ := q_or1 t a (by omega) (by omega)
        obtain ⟨k1, k2⟩ := (q_c5_16 t ht).2 a (by omega) (by cases e : t.testBit a with
          | false => rfl
          | true => exact absurd e c2')
        refine x_le (show 1 ≤ k + 3 by omega) (m_least (k := 0) (Or.inl rfl) (show a < 5 by omega) ⟨_, rfl, ?_⟩)
        refine x_le (show 1 ≤ k + 3 by omega) (m_most (k := 0) (Or.inl rfl) (show a < 5 by omega) ⟨_, rfl, ?_⟩)
        have M1 : q_OM (x_u I 179 10 (I 179 10 + 1)) b n := q_OM_fr hM (x_fr_u (x_fr_refl _ _) rfl)
        have ei : I 179 10 + 1 = ((i + 1 : Nat) : Int) := by omega
        refine x_le (show 3 ≤ k + 3 by omega) (m_number (k := 0) M1 ((x_u_same _ _ _ _).trans ei) (show i + 1 ≤ n by omega) h11 ⟨by omega, by omega⟩ ⟨by omega, by omega⟩ (fun e he hen z I1 g1 e11 => ⟨_, rfl, ⟨by omega, by omega⟩, ?_⟩) (fun j v hv I1 a1 g1 e11 e10 ha1 hj => ⟨_, rfl, ⟨by omega, by omega⟩, ?_⟩))
        · rw [he] at q1
          dsimp only
          rw [e11, show (0 + (a : Int)).toNat = a by omega]
          refine ⟨⟨by omega, by omega⟩, fun _ => ?_, fun h => by omega⟩
          have h11' : x_u I1 185 a z 179 11 = (e : Int) := (x_u_ne _ _ (by omega)).trans e11
          refine v_mItemsS_L23 (k := k + 3) ⟨⟨by omega, by omega⟩, fun h => by omega, fun _ => ?_⟩
          rw [h11']
          exact ⟨⟨by omega, by omega⟩, fun _ => q1 _ rfl hen _ (x_fr_u (k := a) (x_fr_trans (x_fr_u hf rfl) (x_fr_mono g1 rfl)) (x_mem2 (b := 0) (lo := 0) (hi := 0) (x_mem1 ⟨by omega, by omega⟩))) h11', fun h => by omega⟩
        · rw [hv] at q1 q2 q3
          dsimp only
          rw [e11, show (0 + (a : Int)).toNat = a by omega, o1]
          have M2 : q_OM I1 b n := q_OM_fr M1 (x_fr_mono g1 rfl)
          obtain ⟨l0, lA, lV, li, lt⟩ := q_OL M2 e10 ha1
          rw [hj] at lt
          rw [lA, lV, hj]
          refine ⟨by decide, fun h => absurd rfl h, fun _ => ⟨l0, M2.2.2.2.2.2, ⟨by omega, by omega⟩, ?_⟩⟩
          have hjn : j ≤ n := by rw [← hj]; exact li
          have hjs : q_s b n j = j := by rw [← hj]; exact q_s_idem b n a1
          have M3 : q_OM (x_u (x_u I1 185 a v) 179 10 (j : Int)) b n := q_OM_fr M2 (x_fr_u (x_fr_u (k := a) (x_fr_refl _ _) (x_mem2 (b := 0) (lo := 0) (hi := 0) (x_mem2 (b := 0) (lo := 0) (hi := 0) (x_mem2 (b := 0) (lo := 0) (hi := 0) (x_mem1 ⟨by omega, by omega⟩))))) rfl)
          refine m_itS_L I0 f j (t ||| 2 ^ a) (q_up V a v) _ M3 (x_u_same _ _ _ _) hjn hjs (by rw [x_u_ne _ _ (by omega), x_u_ne _ _ (by omega)]; exact e11) (fun x hx' => ?_) k2 (by omega) (x_fr_u (x_fr_u (k := a) (x_fr_trans (x_fr_u hf rfl) (x_fr_mono g1 rfl)) (x_mem2 (b := 0) (lo := 0) (hi := 0) (x_mem1 ⟨by omega, by omega⟩))) rfl) q1 q2 q3
          rw [x_u_ne _ _ (by omega)]
          by_cases c : x = a
          · subst c
            rw [x_u_same]; exact q_up_at.symm
          · rw [x_u_ne _ _ (by omega), g1 185 x rfl, x_u_ne _ _ (by omega), hV x hx']
            exact (q_up_ne c).symm
theorem m_itemsS {g : x_G} {k : Nat} {Q : x_Q} {I L : Nat → Nat → Int} {lp : Nat} {b : Nat → Int} {n a : Nat} (hM : q_OM I b n) (h10 : I 179 10 = (a : Int)) (ha : a ≤ n) (h11 : I 179 11 = -1) (q1 : ∀ e, q_its b n 5102 115 5 (q_s b n a) 0 (q_us2 115) = .inl e → e ≤ n → ∀ I', x_fr [(179, 10, 12), (185, 0, 4)] I I' → I' 179 11 = (e : Int) → Q [] (I', L, lp, 180)) (q2 : ∀ j V', q_its b n 5102 115 5 (q_s b n a) 0 (q_us2 115) = .inr (j, V') → j ≤ n → ∀ I', x_fr [(179, 10, 12), (185, 0, 4)] I I' → I' 179 11 = -1 → I' 179 10 = (j : Int) → q_s b n j = j → (∀ x, x < 4 → I' 185 x = V' x) → Q [] (I', L, lp, 180)) (q3 : ∀ e, q_its b n 5102 115 5 (q_s b n a) 0 (q_us2 115) = .inl e → e < n → ¬ q_tk b n e = 59 → ∀ I', x_fr [(179, 10, 12), (185, 0, 4)] I I' → I' 179 11 = -1 → I' 179 10 = (e : Int) → q_s b n e = e → Q [] (I', L, lp, 180)) : x_X g (k + 9) 217 [x_r 179, x_i 115, x_r 185, x_i 0, x_r 5102] (I, L, lp, 180) Q := by
  have pre : ∀ (m x : Nat) (I1 : Nat → Nat → Int), x + m = 4 → x_fr [(179, 10, 12), (185, 0, 4)] I I1 → I1 179 10 = (a : Int) → I1 179 11 = -1 → (∀ y, y < x → I1 185 y = q_us2 115 y) → x_S g (k + 3 + 6) 217 Q 2 [x_r 179, x_i 115, x_r 185, x_i 0, x_r 5102, x_i (x : Int), x_n] [] (I1, L, lp, 180) := by
    intro m
    induction m with
    | zero =>
      intro x I1 hx f1 e10 e11 hV
      have M1 : q_OM I1 b n := q_OM_fr hM (x_fr_mono f1 rfl)
      refine v_mItemsS_L2 (k := k + 3) (x_le (show 2 ≤ k + 3 by omega) (sm_slen5102 (k := 0) M1.2.2.2.2.2 ⟨_, rfl, ?_⟩))
      obtain ⟨l0, lA, lV, li, lt⟩ := q_OL M1 e10 ha
      dsimp only
      rw [lA, lV]
      refine ⟨⟨by omega, by omega⟩, ⟨by omega, by omega⟩, fun _ => ⟨l0, M1.2.2.2.2.2, ⟨by omega, by omega⟩, ?_⟩, fun h => by omega⟩
      exact m_itS_L I 5 (q_s b n a) 0 (q_us2 115) _ (q_OM_fr M1 (x_fr_u (x_fr_refl _ _) rfl)) (x_u_same _ _ _ _) li (q_s_idem b n a) e11 (fun y hy => (x_u_ne _ _ (by omega)).trans (hV y (by omega))) (by decide) (by decide) (x_fr_u f1 rfl) q1 q2 q3
    | succ m ih =>
      intro x I1 hx f1 e10 e11 hV
      have M1 : q_OM I1 b n := q_OM_fr hM (x_fr_mono f1 rfl)
      refine v_mItemsS_L2 (k := k + 3) (x_le (show 2 ≤ k + 3 by omega) (sm_slen5102 (k := 0) M1.2.2.2.2.2 ⟨_, rfl, ?_⟩))
      refine ⟨⟨by omega, by omega⟩, ⟨by omega, by omega⟩, fun h => by omega, fun _ => ?_⟩
      refine x_le (show 1 ≤ k + 3 by omega) (m_usual (k := 0) (Or.inl rfl) (show x < 5 by omega) ⟨_, rfl, ⟨by omega, by omega⟩, ?_⟩)
      rw [show (0 + (x : Int)).toNat = x by omega]
      refine ih (x + 1) _ (by omega) (x_fr_u (k := x) f1 (x_mem2 (b := 0) (lo := 0) (hi := 0) (x_mem1 ⟨by omega, by omega⟩))) ((x_u_ne _ _ (by omega)).trans e10) ((x_u_ne _ _ (by omega)).trans e11) (fun y hy => ?_)
      by_cases c : y = x
      · subst c; exact x_u_same _ _ _ _
      · exact (x_u_ne _ _ (by omega)).trans (hV y (by omega))
  exact v_mItemsS (k := k + 3) (pre 4 0 I (by omega) (x_fr_refl _ _) h10 h11 (fun y hy => absurd hy (by omega)))
theorem m_itD_L {g : x_G} {k : Nat} {Q : x_Q} {L : Nat → Nat → Int} {lp : Nat} {b : Nat → Int} {n r : Nat} (hr : r < 8) (I0 : Nat → Nat → Int) : ∀ (f i t : Nat) (V : Nat → Int) (I : Nat → Nat → Int), q_OM I b n → I 179 10 = (i : Int) → i ≤ n → q_s b n i = i → I 179 11 = -1 → (∀ x, x < 5 → I 187 (5 * r + x) = V x) → t < 32 → q_c5 t + f = 6 → x_fr [(179, 10, 12), (187, 5 * r, 5 * r + 5)] I0 I → (∀ e, q_its b n 5103 100 f i t V = .inl e → e ≤ n → ∀ I', x_fr [(179, 10, 12), (187, 5 * r, 5 * r + 5)] I0 I' → I' 179 11 = (e : Int) → Q [] (I', L, lp, 180)) → (∀ j V', q_its b n 5103 100 f i t V = .inr (j, V') → j ≤ n → ∀ I', x_fr [(179, 10, 12), (187, 5 * r, 5 * r + 5)] I0 I' → I' 179 11 = -1 → I' 179 10 = (j : Int) → q_s b n j = j → (∀ x, x < 5 → I' 187 (5 * r + x) = V' x) → Q [] (I', L, lp, 180)) → (∀ e, q_its b n 5103 100 f i t V = .inl e → e < n → ¬ q_tk b n e = 59 → ∀ I', x_fr [(179, 10, 12), (187, 5 * r, 5 * r + 5)] I0 I' → I' 179 11 = -1 → I' 179 10 = (e : Int) → q_s b n e = e → Q [] (I', L, lp, 180)) → x_S g (k + 3 + 6) 217 Q 23 [x_r 179, x_i 100, x_r 187, x_i (5 * (r : Int)), x_r 5103, x_i (t : Int), x_i (q_ix 5103 (q_tk b n i))] [] (I, L, lp, 180)
  | 0, i, t, V, I => fun _ _ _ _ _ _ ht hc => by have := (q_c5_32 t ht).1; omega
  | f + 1, i, t, V, I => fun hM h10 hi his h11 hV ht hc hf q1 q2 q3 => by
    have hc5 := (q_c5_32 t ht).1
    have n3 := hM.2.2.1
    rw [q_its_s] at q1 q2 q3
    have hx : -1 ≤ q_ix 5103 (q_tk b n i) ∧ q_ix 5103 (q_tk b n i) < 5 := q_ix_len 5103 (q_tk b n i)
    refine v_mItemsD_L23 (k := k + 3) ⟨⟨by omega, by omega⟩, fun c => ?_, fun c => ?_⟩
    · by_cases c1 : n ≤ i ∨ q_tk b n i = 59
      · rw [if_pos c1] at q2
        exact q2 _ _ rfl hi I hf h11 h10 his hV
      · rw [if_neg c1, if_pos (Or.inl (by omega))] at q3
        exact q3 _ rfl (by omega) (by omega) I hf h11 h10 his
    · have c1 : ¬ (n ≤ i ∨ q_tk b n i = 59) := fun h => c (by
        rcases h with h | h
        · rw [show q_tk b n i = -1 from if_neg (by omega)]; decide
        · rw [h]; decide)
      have hin : i < n := by omega
      rw [if_neg c1] at q1 q2 q3
      obtain ⟨a, ha⟩ := Int.eq_ofNat_of_zero_le (show 0 ≤ q_ix 5103 (q_tk b n i) by omega)
      rw [ha] at q1 q2 q3 hx ⊢
      rw [show ((a : Int)).toNat = a by omega] at q1 q2 q3 ⊢
      rw [h11]
      refine ⟨by decide, fun h => absurd rfl h, fun _ => ⟨⟨by omega, by omega⟩, ⟨by omega, by omega⟩, fun c2 => ?_, fun c2 => ?_⟩⟩
      · have c2' : t.testBit a = true := c2
        rw [if_pos (Or.inr c2')] at q1
        refine x_le (show 1 ≤ k + 3 by omega) (s_failsE (k := 0) h11 ⟨_, rfl, ?_⟩)
        exact q1 _ rfl hi _ (x_fr_u hf rfl) ((x_u_same _ _ _ _).trans h10)
      · have c2' : ¬ t.testBit a = true := c2
        rw [if_neg (fun h => h.elim (fun h => by omega) c2')] at q1 q2 q3
        have lm := q_lm2 100 a
        obtain ⟨o1, o2⟩ := q_or1 t a (by omega) (by omega)
        obtain ⟨k1, k2⟩ := (q_c5_32 t ht).2 a (by omega) (by cases e : t.testBit a with
          | false => rfl
          | true => exact absurd e c2')
        refine x_le (show 1 ≤ k + 3 by omega) (m_least (k := 0) (Or.inr rfl) (show a < 5 by omega) ⟨_, rfl, ?_⟩)
        refine x_le (show 1 ≤ k + 3 by omega) (m_most (k := 0) (Or.inr rfl) (show a < 5 by omega) ⟨_, rfl, ?_⟩)
        have M1 : q_OM (x_u I 179 10 (I 179 10 + 1)) b n := q_OM_fr hM (x_fr_u (x_fr_refl _ _) rfl)
        have ei : I 179 10 + 1 = ((i + 1 : Nat) : Int) := by omega
        refine x_le (show 3 ≤ k + 3 by omega) (m_number (k := 0) M1 ((x_u_same _ _ _ _).trans ei) (show i + 1 ≤ n by omega) h11 ⟨by omega, by omega⟩ ⟨by omega, by omega⟩ (fun e he hen z I1 g1 e11 => ⟨_, rfl, ⟨by omega, by omega⟩, ?_⟩) (fun j v hv I1 a1 g1 e11 e10 ha1 hj => ⟨_, rfl, ⟨by omega, by omega⟩, ?_⟩))
        · rw [he] at q1
          dsimp only
          rw [e11, show ((5 * (r : Int)) + (a : Int)).toNat = (5 * r + a) by omega]
          refine ⟨⟨by omega, by omega⟩, fun _ => ?_, fun h => by omega⟩
          have h11' : x_u I1 187 (5 * r + a) z 179 11 = (e : Int) := (x_u_ne _ _ (by omega)).trans e11
          refine v_mItemsD_L23 (k := k + 3) ⟨⟨by omega, by omega⟩, fun h => by omega, fun _ => ?_⟩
          rw [h11']
          exact ⟨⟨by omega, by omega⟩, fun _ => q1 _ rfl hen _ (x_fr_u (k := (5 * r + a)) (x_fr_trans (x_fr_u hf rfl) (x_fr_mono g1 (x_sub_hm _))) (x_mem2 (b := 0) (lo := 0) (hi := 0) (x_mem1 ⟨by omega, by omega⟩))) h11', fun h => by omega⟩
        · rw [hv] at q1 q2 q3
          dsimp only
          rw [e11, show ((5 * (r : Int)) + (a : Int)).toNat = (5 * r + a) by omega, o1]
          have M2 : q_OM I1 b n := q_OM_fr M1 (x_fr_mono g1 rfl)
          obtain ⟨l0, lA, lV, li, lt⟩ := q_OL M2 e10 ha1
          rw [hj] at lt
          rw [lA, lV, hj]
          refine ⟨by decide, fun h => absurd rfl h, fun _ => ⟨l0, M2.2.2.2.2.2, ⟨by omega, by omega⟩, ?_⟩⟩
          have hjn : j ≤ n := by rw [← hj]; exact li
          have hjs : q_s b n j = j := by rw [← hj]; exact q_s_idem b n a1
          have M3 : q_OM (x_u (x_u I1 187 (5 * r + a) v) 179 10 (j : Int)) b n := q_OM_fr M2 (x_fr_u (x_fr_u (k := (5 * r + a)) (x_fr_refl _ _) (x_mem2 (b := 0) (lo := 0) (hi := 0) (x_mem2 (b := 0) (lo := 0) (hi := 0) (x_mem2 (b := 0) (lo := 0) (hi := 0) (x_mem2 (b := 0) (lo := 0) (hi := 0) (x_mem1 ⟨by omega, by omega⟩)))))) rfl)
          refine m_itD_L hr I0 f j (t ||| 2 ^ a) (q_up V a v) _ M3 (x_u_same _ _ _ _) hjn hjs (by rw [x_u_ne _ _ (by omega), x_u_ne _ _ (by omega)]; exact e11) (fun x hx' => ?_) k2 (by omega) (x_fr_u (x_fr_u (k := (5 * r + a)) (x_fr_trans (x_fr_u hf rfl) (x_fr_mono g1 (x_sub_hm _))) (x_mem2 (b := 0) (lo := 0) (hi := 0) (x_mem1 ⟨by omega, by omega⟩))) rfl) q1 q2 q3
          rw [x_u_ne _ _ (by omega)]
          by_cases c : x = a
          · subst c
            rw [x_u_same]; exact q_up_at.symm
          · rw [x_u_ne _ _ (by omega), g1 187 (5 * r + x) rfl, x_u_ne _ _ (by omega), hV x hx']
            exact (q_up_ne c).symm
theorem m_itemsD {g : x_G} {k : Nat} {Q : x_Q} {I L : Nat → Nat → Int} {lp : Nat} {b : Nat → Int} {n a r : Nat} (hr : r < 8) (hM : q_OM I b n) (h10 : I 179 10 = (a : Int)) (ha : a ≤ n) (h11 : I 179 11 = -1) (q1 : ∀ e, q_its b n 5103 100 6 (q_s b n a) 0 (q_us2 100) = .inl e → e ≤ n → ∀ I', x_fr [(179, 10, 12), (187, 5 * r, 5 * r + 5)] I I' → I' 179 11 = (e : Int) → Q [] (I', L, lp, 180)) (q2 : ∀ j V', q_its b n 5103 100 6 (q_s b n a) 0 (q_us2 100) = .inr (j, V') → j ≤ n → ∀ I', x_fr [(179, 10, 12), (187, 5 * r, 5 * r + 5)] I I' → I' 179 11 = -1 → I' 179 10 = (j : Int) → q_s b n j = j → (∀ x, x < 5 → I' 187 (5 * r + x) = V' x) → Q [] (I', L, lp, 180)) (q3 : ∀ e, q_its b n 5103 100 6 (q_s b n a) 0 (q_us2 100) = .inl e → e < n → ¬ q_tk b n e = 59 → ∀ I', x_fr [(179, 10, 12), (187, 5 * r, 5 * r + 5)] I I' → I' 179 11 = -1 → I' 179 10 = (e : Int) → q_s b n e = e → Q [] (I', L, lp, 180)) : x_X g (k + 9) 217 [x_r 179, x_i 100, x_r 187, x_i (5 * (r : Int)), x_r 5103] (I, L, lp, 180) Q := by
  have pre : ∀ (m x : Nat) (I1 : Nat → Nat → Int), x + m = 5 → x_fr [(179, 10, 12), (187, 5 * r, 5 * r + 5)] I I1 → I1 179 10 = (a : Int) → I1 179 11 = -1 → (∀ y, y < x → I1 187 (5 * r + y) = q_us2 100 y) → x_S g (k + 3 + 6) 217 Q 2 [x_r 179, x_i 100, x_r 187, x_i (5 * (r : Int)), x_r 5103, x_i (x : Int), x_n] [] (I1, L, lp, 180) := by
    intro m
    induction m with
    | zero =>
      intro x I1 hx f1 e10 e11 hV
      have M1 : q_OM I1 b n := q_OM_fr hM (q_fDr hr f1)
      refine v_mItemsD_L2 (k := k + 3) (x_le (show 2 ≤ k + 3 by omega) (sm_slen5103 (k := 0) M1.2.2.2.2.2 ⟨_, rfl, ?_⟩))
      obtain ⟨l0, lA, lV, li, lt⟩ := q_OL M1 e10 ha
      dsimp only
      rw [lA, lV]
      refine ⟨⟨by omega, by omega⟩, ⟨by omega, by omega⟩, fun _ => ⟨l0, M1.2.2.2.2.2, ⟨by omega, by omega⟩, ?_⟩, fun h => by omega⟩
      exact m_itD_L hr I 6 (q_s b n a) 0 (q_us2 100) _ (q_OM_fr M1 (x_fr_u (x_fr_refl _ _) rfl)) (x_u_same _ _ _ _) li (q_s_idem b n a) e11 (fun y hy => (x_u_ne _ _ (by omega)).trans (hV y (by omega))) (by decide) (by decide) (x_fr_u f1 rfl) q1 q2 q3
    | succ m ih =>
      intro x I1 hx f1 e10 e11 hV
      have M1 : q_OM I1 b n := q_OM_fr hM (q_fDr hr f1)
      refine v_mItemsD_L2 (k := k + 3) (x_le (show 2 ≤ k + 3 by omega) (sm_slen5103 (k := 0) M1.2.2.2.2.2 ⟨_, rfl, ?_⟩))
      refine ⟨⟨by omega, by omega⟩, ⟨by omega, by omega⟩, fun h => by omega, fun _ => ?_⟩
      refine x_le (show 1 ≤ k + 3 by omega) (m_usual (k := 0) (Or.inr rfl) (show x < 5 by omega) ⟨_, rfl, ⟨by omega, by omega⟩, ?_⟩)
      rw [show ((5 * (r : Int)) + (x : Int)).toNat = (5 * r + x) by omega]
      refine ih (x + 1) _ (by omega) (x_fr_u (k := (5 * r + x)) f1 (x_mem2 (b := 0) (lo := 0) (hi := 0) (x_mem1 ⟨by omega, by omega⟩))) ((x_u_ne _ _ (by omega)).trans e10) ((x_u_ne _ _ (by omega)).trans e11) (fun y hy => ?_)
      by_cases c : y = x
      · subst c; exact x_u_same _ _ _ _
      · exact (x_u_ne _ _ (by omega)).trans (hV y (by omega))
  exact v_mItemsD (k := k + 3) (pre 5 0 I (by omega) (x_fr_refl _ _) h10 h11 (fun y hy => absurd hy (by omega)))
