/-! The reference reads a law -/
abbrev q_fM : List (Nat × Nat × Nat) := [(179, 10, 13)]
def q_MB (I : Nat → Nat → Int) (tp : Nat) (b : Nat → Int) (n : Nat) (lt : Nat → Int) : Prop := (tp = 180 ∨ tp = 181) ∧ 0 ≤ I 179 8 ∧ I 179 9 = (n : Int) ∧ n ≤ 240 ∧ (I 179 8 + (n : Int) ≤ if tp = 180 then 240 else 960) ∧ (∀ j, j < n → q_bm I tp j = b j) ∧ (∀ j, j < n → -128 ≤ q_by I tp ((I 179 8).toNat + j) ∧ q_by I tp ((I 179 8).toNat + j) ≤ 127) ∧ (∀ j, j < n → 1 ≤ b j ∧ b j ≤ 255) ∧ (I 183 109 = lt 0 ∧ I 183 104 = lt 1 ∧ I 183 102 = lt 2 ∧ I 183 100 = lt 3 ∧ I 183 107 = lt 4 ∧ I 183 110 = lt 5) ∧ q_str I
def q_MA (I : Nat → Nat → Int) (b : Nat → Int) (n a i dp : Nat) : Prop := I 179 10 = (a : Int) ∧ a ≤ n ∧ q_s b n a = i ∧ I 179 11 = -1 ∧ I 179 12 = (dp : Int)
theorem q_str_fr {S : List (Nat × Nat × Nat)} {I I' : Nat → Nat → Int} (h5 : q_str I) (hf : ∀ a k, 5000 ≤ a → I' a k = I a k) : q_str I' := by
  obtain ⟨⟨a1, a2, a3, a4⟩, a5, ⟨b1, b2, b3, b4, b5, b6⟩, ⟨c1, c2, c3, c4⟩, d1, d2, d3, d4, d5⟩ := h5
  have e := fun a k (hm : 5000 ≤ a) => hf a k hm
  exact ⟨⟨(e _ _ (by decide)).trans a1, (e _ _ (by decide)).trans a2, (e _ _ (by decide)).trans a3, (e _ _ (by decide)).trans a4⟩, (e _ _ (by decide)).trans a5, ⟨(e _ _ (by decide)).trans b1, (e _ _ (by decide)).trans b2, (e _ _ (by decide)).trans b3, (e _ _ (by decide)).trans b4, (e _ _ (by decide)).trans b5, (e _ _ (by decide)).trans b6⟩, ⟨(e _ _ (by decide)).trans c1, (e _ _ (by decide)).trans c2, (e _ _ (by decide)).trans c3, (e _ _ (by decide)).trans c4⟩, (e _ _ (by decide)).trans d1, (e _ _ (by decide)).trans d2, (e _ _ (by decide)).trans d3, (e _ _ (by decide)).trans d4, (e _ _ (by decide)).trans d5⟩
theorem q_fM_hi {I I' : Nat → Nat → Int} (h : x_fr q_fM I I') (a k : Nat) (ha : 180 ≤ a) : I' a k = I a k := by
  refine h a k ?_
  cases e : x_mem q_fM a k with
  | false => rfl
  | true =>
    obtain ⟨t, h1, h2, -⟩ := (x_mem_iff _ a k).mp e
    simp at h1
    subst h1
    simp at h2
    omega
theorem q_MB_eq {I I' : Nat → Nat → Int} {tp : Nat} {b : Nat → Int} {n : Nat} {lt : Nat → Int} (h : q_MB I tp b n lt) (e8 : I' 179 8 = I 179 8) (e9 : I' 179 9 = I 179 9) (hi : ∀ a k, 180 ≤ a → I' a k = I a k) : q_MB I' tp b n lt := by
  obtain ⟨h1, h2, h3, h4, h5, h6, h7, h8, ⟨l0, l1, l2, l3, l4, l5⟩, h9⟩ := h
  have eb := q_bm_congr (tp := tp) e8 (fun i => hi 180 i (by decide)) (fun i => hi 181 i (by decide))
  have ey : ∀ j, q_by I' tp j = q_by I tp j := fun j => by unfold q_by; rw [hi 180 j (by decide), hi 181 j (by decide)]
  refine ⟨h1, by rw [e8]; exact h2, e9.trans h3, h4, by rw [e8]; exact h5, by rw [eb]; exact h6, fun j hj => by rw [ey, e8]; exact h7 j hj, h8, ⟨?_, ?_, ?_, ?_, ?_, ?_⟩, q_str_fr (S := []) h9 (fun a k ha => hi a k (by omega))⟩
  · exact (hi _ _ (by decide)).trans l0
  · exact (hi _ _ (by decide)).trans l1
  · exact (hi _ _ (by decide)).trans l2
  · exact (hi _ _ (by decide)).trans l3
  · exact (hi _ _ (by decide)).trans l4
  · exact (hi _ _ (by decide)).trans l5
theorem q_MB_fr {I I' : Nat → Nat → Int} {tp : Nat} {b : Nat → Int} {n : Nat} {lt : Nat → Int} (h : q_MB I tp b n lt) (hf : x_fr q_fM I I') : q_MB I' tp b n lt := q_MB_eq h (hf 179 8 rfl) (hf 179 9 rfl) (fun a k ha => q_fM_hi hf a k ha)
theorem q_MB_lk {I : Nat → Nat → Int} {tp : Nat} {b : Nat → Int} {n : Nat} {lt : Nat → Int} (h : q_MB I tp b n lt) {a : Nat} (h10 : I 179 10 = (a : Int)) (ha : a ≤ n) : q_lk0 I tp := by
  obtain ⟨h1, h2, h3, h4, h5, h6, h7, h8, -⟩ := h
  exact ⟨h1, h2, by omega, by omega, by rw [h3]; exact h5, by omega, by omega, fun j hj => h7 j (by omega)⟩
theorem q_ML {I : Nat → Nat → Int} {tp : Nat} {b : Nat → Int} {n a i dp : Nat} {lt : Nat → Int} (h : q_MB I tp b n lt) (hA : q_MA I b n a i dp) : q_lk0 I tp ∧ q_lkA I tp = (i : Int) ∧ q_lkV I tp = q_tk b n i ∧ i ≤ n ∧ -1 ≤ q_tk b n i ∧ q_tk b n i ≤ 255 ∧ a ≤ i := by
  obtain ⟨a1, a2, a3, a4, a5⟩ := hA
  have hl := q_MB_lk h a1 a2
  obtain ⟨h1, h2, h3, h4, h5, h6, h7, h8, -⟩ := h
  have hN : q_lkN I tp = i := by
    unfold q_lkN
    rw [h3, a1]
    show q_s (q_bm I tp) n a = i
    rw [q_s_congr h6, a3]
  refine ⟨hl, by unfold q_lkA; rw [hN], ?_, by rw [← a3]; exact q_s_le a2, ?_, ?_, by rw [← a3]; exact q_s_ge b n a⟩
  · unfold q_lkV
    rw [hN, h3]
    exact q_tk_congr h6 i
  · unfold q_tk
    by_cases q : i < n
    · rw [if_pos q]; have := h8 i q; omega
    · rw [if_neg q]; omega
  · unfold q_tk
    by_cases q : i < n
    · rw [if_pos q]; have := h8 i q; omega
    · rw [if_neg q]; omega
theorem q_fM10 (I : Nat → Nat → Int) (z : Int) : x_fr q_fM I (x_u I 179 10 z) := x_fr_u (x_fr_refl _ _) rfl
theorem q_fM11 (I : Nat → Nat → Int) (z : Int) : x_fr q_fM I (x_u I 179 11 z) := x_fr_u (x_fr_refl _ _) rfl
theorem q_fM12 (I : Nat → Nat → Int) (z : Int) : x_fr q_fM I (x_u I 179 12 z) := x_fr_u (x_fr_refl _ _) rfl
theorem q_MA_at {I : Nat → Nat → Int} {b : Nat → Int} {n a i dp c : Nat} (h : q_MA I b n a i dp) (hc : c ≤ n) : q_MA (x_u I 179 10 (c : Int)) b n c (q_s b n c) dp := ⟨x_u_same _ _ _ _, hc, rfl, h.2.2.2.1, h.2.2.2.2⟩
theorem q_MA_st {I : Nat → Nat → Int} {b : Nat → Int} {n a i dp : Nat} (h : q_MA I b n a i dp) : q_MA (x_u I 179 10 (i : Int)) b n i i dp := by
  have h1 : i ≤ n := by rw [← h.2.2.1]; exact q_s_le h.2.1
  have h2 : q_s b n i = i := by rw [← h.2.2.1]; exact q_s_idem _ _ _
  exact ⟨x_u_same _ _ _ _, h1, h2, h.2.2.2.1, h.2.2.2.2⟩
theorem s_failsE {g : x_G} {k : Nat} {Q : x_Q} {I L : Nat → Nat → Int} {lp tp : Nat} (h : I 179 11 = -1) (hq : Q [x_i 0] (x_u I 179 11 (I 179 10), L, lp, tp)) : x_X g (k + 1) 195 [x_r 179] (I, L, lp, tp) Q := by
  refine v_fails ?_
  rw [h]
  exact ⟨by decide, fun q => absurd rfl q, fun _ => hq⟩
theorem s_failsK {g : x_G} {k : Nat} {Q : x_Q} {I L : Nat → Nat → Int} {lp tp e : Nat} (h : I 179 11 = (e : Int)) (he : e ≤ 1000) (hq : Q [x_i 0] (I, L, lp, tp)) : x_X g (k + 1) 195 [x_r 179] (I, L, lp, tp) Q := by
  refine v_fails ?_
  rw [h]
  exact ⟨⟨by omega, by omega⟩, fun q => hq, fun q => by omega⟩
theorem s_takes {g : x_G} {k : Nat} {Q : x_Q} {I L : Nat → Nat → Int} {lp tp : Nat} {b : Nat → Int} {n a i dp : Nat} {lt : Nat → Int} {s : Int} (hs : 0 ≤ s ∧ s ≤ 255) (hB : q_MB I tp b n lt) (hA : q_MA I b n a i dp) (h1 : q_tk b n i = s → ∀ I', x_fr q_fM I I' → q_MA I' b n (i + 1) (q_s b n (i + 1)) dp → Q [x_i 1] (I', L, lp, tp)) (h2 : ¬ q_tk b n i = s → ∀ I', x_fr q_fM I I' → I' 179 11 = (i : Int) → Q [x_i 0] (I', L, lp, tp)) : x_X g (k + 3) 197 [x_r 179, x_i s] (I, L, lp, tp) Q := by
  obtain ⟨l0, lA, lV, li, r1, r2, -⟩ := q_ML hB hA
  refine v_takes (k := k + 1) ?_
  rw [hA.2.2.2.1, lA, lV, x_u_u]
  refine ⟨by decide, fun q => absurd rfl q, fun _ => ⟨l0, ⟨by omega, by omega⟩, ⟨by omega, by omega⟩, fun q => ?_, fun q => ?_⟩⟩
  · have hi : i < n := q_tk_lt (b := b) (by omega)
    exact h1 q _ (q_fM10 _ _) (q_MA_at (c := i + 1) hA hi)
  · refine s_failsE hA.2.2.2.1 ⟨0, rfl, Or.inl rfl, ?_⟩
    exact h2 q _ (x_fr_trans (q_fM10 _ _) (q_fM11 _ _)) (x_u_same _ _ _ _)
theorem s_takesK {g : x_G} {k : Nat} {Q : x_Q} {I L : Nat → Nat → Int} {lp tp e : Nat} {s : Int} (h : I 179 11 = (e : Int)) (he : e ≤ 1000) (hq : Q [x_i 0] (I, L, lp, tp)) : x_X g (k + 3) 197 [x_r 179, x_i s] (I, L, lp, tp) Q := by
  refine v_takes (k := k + 1) ?_
  rw [h]
  exact ⟨⟨by omega, by omega⟩, fun q => s_failsK h he ⟨0, rfl, Or.inl rfl, hq⟩, fun q => by omega⟩
theorem s_goesIn {g : x_G} {k : Nat} {Q : x_Q} {I L : Nat → Nat → Int} {lp tp : Nat} {b : Nat → Int} {n i dp : Nat} (hA : q_MA I b n i i dp) (hi : i < n) (hd : dp ≤ 6) (h1 : ¬ dp = 6 → ∀ I', x_fr q_fM I I' → q_MA I' b n (i + 1) (q_s b n (i + 1)) (dp + 1) → Q [x_i 1] (I', L, lp, tp)) (h2 : dp = 6 → ∀ I', x_fr q_fM I I' → I' 179 11 = (i : Int) → Q [x_i 0] (I', L, lp, tp)) : x_X g (k + 2) 196 [x_r 179] (I, L, lp, tp) Q := by
  obtain ⟨a1, a2, a3, a4, a5⟩ := hA
  refine v_goesIn (k := k + 1) ?_
  rw [a5, a1]
  refine ⟨⟨by omega, by omega⟩, fun q => ?_, fun q => ?_⟩
  · exact h1 (by omega) _ (x_fr_trans (q_fM12 _ _) (q_fM10 _ _)) ⟨x_u_same _ _ _ _, hi, rfl, a4, rfl⟩
  · refine s_failsE a4 ⟨0, rfl, Or.inl rfl, ?_⟩
    exact h2 (by omega) _ (q_fM11 _ _) ((x_u_same _ _ _ _).trans a1)
def q_PM (b : Nat → Int) (n : Nat) (lt : Nat → Int) (dp : Nat) (Q : x_Q) (I L : Nat → Nat → Int) (lp tp tag : Nat) (r : Nat ⊕ (Nat × List Int × q_LV)) : Prop := (∀ e, r = .inl e → ∀ z I', q_ou tag z → x_fr q_fM I I' → I' 179 11 = (e : Int) → Q [x_i z] (I', L, lp, tp)) ∧ (∀ j c w, r = .inr (j, c, w) → ∀ I' a', x_fr q_fM I I' → q_MA I' b n a' j dp → Q [x_i (w lt)] (I', L, lp, tp))
theorem q_PM_tr {b : Nat → Int} {n : Nat} {lt : Nat → Int} {dp : Nat} {Q : x_Q} {I I1 L : Nat → Nat → Int} {lp tp tag : Nat} {r : Nat ⊕ (Nat × List Int × q_LV)} (h : q_PM b n lt dp Q I L lp tp tag r) (hf : x_fr q_fM I I1) : q_PM b n lt dp Q I1 L lp tp tag r := ⟨fun e he z I' hz f' h9 => h.1 e he z I' hz (x_fr_trans hf f') h9, fun j c w hj I' a' f' hT => h.2 j c w hj I' a' (x_fr_trans hf f') hT⟩
def q_MX (g : x_G) (b : Nat → Int) (n : Nat) (lt : Nat → Int) (f tag mid : Nat) (ar : List x_V) (base : Nat) : Prop := ∀ (dp i a : Nat) (cs : List Int) (v : q_LV) (r : Nat ⊕ (Nat × List Int × q_LV)) (k : Nat) (I L : Nat → Nat → Int) (lp tp : Nat) (Q : x_Q), q_p b n f tag dp i cs v = some r → q_MB I tp b n lt → q_MA I b n a i dp → dp ≤ 6 → base + 10 * (6 - dp) ≤ k → q_PM b n lt dp Q I L lp tp tag r → x_X g k mid ar (I, L, lp, tp) Q
def q_MS (g : x_G) (b : Nat → Int) (n : Nat) (lt : Nat → Int) (f tag mid pc : Nat) (ls : Int → List x_V) (base : Nat) : Prop := ∀ (dp i a : Nat) (cs : List Int) (v : q_LV) (r : Nat ⊕ (Nat × List Int × q_LV)) (k : Nat) (I L : Nat → Nat → Int) (lp tp : Nat) (Q : x_Q), q_p b n f tag dp i cs v = some r → q_MB I tp b n lt → q_MA I b n a i dp → dp ≤ 6 → q_in tag (v lt) → base + 10 * (6 - dp) ≤ k → q_PM b n lt dp Q I L lp tp tag r → x_S g k mid Q pc (ls (v lt)) [] (I, L, lp, tp)
theorem q_let {I : Nat → Nat → Int} {tp : Nat} {b : Nat → Int} {n : Nat} {lt : Nat → Int} (h : q_MB I tp b n lt) {z : Int} (hz : 0 ≤ q_li z) : (0 ≤ z ∧ z < 128) ∧ I 183 z.toNat = lt (q_li z).toNat := by
  obtain ⟨-, -, -, -, -, -, -, -, ⟨l0, l1, l2, l3, l4, l5⟩, -⟩ := h
  rcases q_ixl_rg (q_strs 5101) 0 z (by decide) with ⟨q1, q2⟩ | ⟨q1, q2, q3⟩
  · have : q_li z = -1 := q1
    omega
  · have q4 : z ∈ [109, 104, 102, 100, 107, 110] := q3
    simp at q4
    rcases q4 with rfl | rfl | rfl | rfl | rfl | rfl
    · exact ⟨⟨by decide, by decide⟩, l0⟩
    · exact ⟨⟨by decide, by decide⟩, l1⟩
    · exact ⟨⟨by decide, by decide⟩, l2⟩
    · exact ⟨⟨by decide, by decide⟩, l3⟩
    · exact ⟨⟨by decide, by decide⟩, l4⟩
    · exact ⟨⟨by decide, by decide⟩, l5⟩
theorem q_isD_eq {I : Nat → Nat → Int} {tp : Nat} {b : Nat → Int} {n a : Nat} {lt : Nat → Int} (h : q_MB I tp b n lt) (h10 : I 179 10 = (a : Int)) : q_isD I tp ↔ (a < n ∧ 48 ≤ b a ∧ b a ≤ 57) := by
  obtain ⟨h1, h2, h3, h4, h5, h6, h7, h8, -⟩ := h
  unfold q_isD
  rw [h10, h3, show ((a : Int)).toNat = a by omega]
  constructor
  · rintro ⟨q1, q2, q3⟩
    have : a < n := by omega
    rw [h6 a this] at q2 q3
    exact ⟨this, q2, q3⟩
  · rintro ⟨q1, q2, q3⟩
    rw [h6 a q1]
    exact ⟨by omega, q2, q3⟩
theorem m_num_L {g : x_G} {b : Nat → Int} {n : Nat} {lt : Nat → Int} {L : Nat → Nat → Int} {lp tp : Nat} {Q : x_Q} {k i dp : Nat} {r : Nat ⊕ (Nat × List Int × q_LV)} {cs : List Int} (hr : r = q_nr b n i cs) (hn0 : ¬ q_dg b n 5 i = 0) : ∀ (m d : Nat) (I : Nat → Nat → Int), q_dg b n 5 i - d = m → d ≤ q_dg b n 5 i → d ≤ 4 → q_MB I tp b n lt → I 179 10 = ((i + d : Nat) : Int) → i + d ≤ n → I 179 11 = -1 → I 179 12 = (dp : Int) → q_PM b n lt dp Q I L lp tp 0 r → x_S g (k + 7) 200 Q 53 [x_r 179, x_n, x_i (q_nv b i d), x_i (d : Int)] [] (I, L, lp, tp)
  | 0, d, I, hm, hd, h4, hB, h10, hin, h11, h12, hQ => by
    have he : q_dg b n 5 i = d := by omega
    have hD := q_isD_eq hB h10
    have ho := q_dg_out b n 5 i (by omega)
    rw [he] at ho
    refine v_atom_L53 ⟨q_MB_lk hB h10 hin, fun q => absurd (hD.mp q) ho, fun q => ?_⟩
    have hr' : r = .inr (q_s b n (i + d), cs ++ [100 + q_nv b i d], fun _ => q_nv b i d) := by
      rw [hr]; unfold q_nr
      rw [if_neg hn0, if_neg (by omega), he]
    exact hQ.2 _ _ _ hr' I (i + d) (x_fr_refl _ _) ⟨h10, hin, rfl, h11, h12⟩
  | m + 1, d, I, hm, hd, h4, hB, h10, hin, h11, h12, hQ => by
    have hD := q_isD_eq hB h10
    have hdig := q_dg_in b n 5 i d (by omega)
    have hl := q_MB_lk hB h10 hin
    have h3 := hB.2.2.1
    refine v_atom_L53 (k := k + 1) ⟨hl, fun q => ?_, fun q => absurd (hD.mpr hdig) q⟩
    rw [h11]
    refine ⟨by decide, fun q => absurd rfl q, fun _ => ⟨⟨by omega, by omega⟩, fun q2 => ?_, fun q2 => ?_⟩⟩
    · obtain ⟨r1, r2, r3, r4⟩ := q_lk0_read (g := g) hl (by omega)
      refine ⟨r1, r2, ?_⟩
      have hb := hB.2.2.2.2.2.1 (i + d) hdig.1
      unfold q_bm at hb
      rw [r3, h10] at *
      rw [show (((i + d : Nat) : Int)).toNat = i + d by omega] at *
      rw [show q_by I tp ((I 179 8).toNat + (i + d)) = b (i + d) by omega]
      refine m_num_L hr hn0 m (d + 1) _ (by omega) (by omega) (by omega) (q_MB_fr hB (q_fM10 _ _)) ?_ (by omega) h11 h12 (q_PM_tr hQ (q_fM10 _ _))
      rw [x_u_same]; omega
    · refine s_failsE h11 ⟨0, rfl, ?_⟩
      have hr' : r = .inl (i + 4) := by
        rw [hr]; unfold q_nr
        have := q_dg_le b n 5 i
        rw [if_neg hn0, if_pos (by omega)]
      refine hQ.1 _ hr' 0 _ ⟨⟨by decide, by decide⟩, fun q => by omega⟩ (q_fM11 _ _) ?_
      rw [x_u_same, h10]
      omega
theorem m_atom {g : x_G} {b : Nat → Int} {n : Nat} {lt : Nat → Int} {f : Nat} (hlt : ∀ j, j < 6 → q_m6 (lt j)) (hS : q_MX g b n lt f 3 202 [x_r 179] 14) : q_MX g b n lt (f + 1) 0 200 [x_r 179] 10 := by
  intro dp i a cs v r k I L lp tp Q h hB hA hd hk hQ
  obtain ⟨k, rfl⟩ : ∃ k', k = k' + 7 := ⟨k - 7, by omega⟩
  obtain ⟨l0, lA, lV, li, r1, r2, -⟩ := q_ML hB hA
  rw [q_p0] at h
  have hS1 := q_MA_st hA
  have hB1 := q_MB_fr hB (q_fM10 I (i : Int))
  refine v_atom (k := k + 1) ?_
  rw [lA, lV, x_u_u]
  refine ⟨l0, hB.2.2.2.2.2.2.2.2.2, ⟨by omega, by omega⟩, fun q => ?_, fun q => ⟨fun q2 => ⟨q_MB_lk hB1 hS1.1 li, ?_⟩, fun q2 => ?_⟩⟩
  · obtain ⟨z1, z2⟩ := q_let hB q
    refine ⟨z1, ?_⟩
    rw [z2]
    rw [if_neg (by intro z; rw [z] at q; exact absurd q (by decide)), if_pos q] at h
    cases h
    have hi : i < n := q_tk_lt z1.1
    exact hQ.2 _ _ _ rfl _ (i + 1) (q_fM10 _ _) (q_MA_at (c := i + 1) hA hi)
  · have hr : r = q_nr b n i cs := by
      rw [if_neg q2, if_neg q] at h
      unfold q_nr
      by_cases q3 : q_dg b n 5 i = 0
      · rw [if_pos q3] at h ⊢; cases h; rfl
      · rw [if_neg q3] at h ⊢
        by_cases q4 : q_dg b n 5 i = 5
        · rw [if_pos q4] at h ⊢; cases h; rfl
        · rw [if_neg q4] at h ⊢; cases h; rfl
    have hD := q_isD_eq hB1 hS1.1
    by_cases q3 : q_dg b n 5 i = 0
    · have ho := q_dg_out b n 5 i (by omega)
      rw [q3, Nat.add_zero] at ho
      refine ⟨fun z => absurd (hD.mp z) ho, fun z => s_failsE hS1.2.2.2.1 ⟨0, rfl, ?_⟩⟩
      have hr' : r = .inl i := by rw [hr]; unfold q_nr; rw [if_pos q3]
      have fr : x_fr q_fM I (x_u (x_u I 179 10 (i : Int)) 179 11 ((x_u I 179 10 (i : Int)) 179 10)) := x_fr_trans (q_fM10 _ _) (q_fM11 _ _)
      have e11 : (x_u (x_u I 179 10 (i : Int)) 179 11 ((x_u I 179 10 (i : Int)) 179 10)) 179 11 = (i : Int) := rfl
      have hB2 := q_MB_fr hB fr
      have hD2 := q_isD_eq (a := i) hB2 rfl
      exact v_atom_L53 ⟨q_MB_lk (a := i) hB2 rfl li, fun z => absurd (hD2.mp z) ho, fun _ => hQ.1 _ hr' 0 _ ⟨⟨by decide, by decide⟩, fun q => by omega⟩ fr e11⟩
    · have hin := q_dg_in b n 5 i 0 (by omega)
      rw [Nat.add_zero] at hin
      refine ⟨fun _ => ?_, fun z => absurd (hD.mpr hin) z⟩
      exact m_num_L (i := i) (dp := dp) hr q3 _ 0 _ rfl (Nat.zero_le _) (by decide) hB1 hS1.1 li hS1.2.2.2.1 hS1.2.2.2.2 (q_PM_tr hQ (q_fM10 _ _))
  · rw [if_pos q2] at h
    have hi : i < n := q_tk_lt (b := b) (by omega)
    refine x_le (show 2 ≤ k + 1 by omega) (s_goesIn (k := 0) hS1 hi hd (fun hd6 I2 f2 A2 => ?_) (fun hd6 I2 f2 e2 => ?_))
    · have fr2 := x_fr_trans (q_fM10 I (i : Int)) f2
      have hB2 := q_MB_fr hB fr2
      rw [if_neg hd6] at h
      refine ⟨1, rfl, by decide, fun _ => ?_, fun z => absurd z (by decide)⟩
      rcases q_bd_some h with ⟨e, e1, e2⟩ | ⟨j, c, w, e1, e2⟩
      · have he := q_p_er _ _ _ _ _ _ _ _ _ e1 (q_s_le (by omega))
        have hn := hB.2.2.2.1
        refine hS (dp + 1) _ (i + 1) cs q_z _ (k + 1) _ L lp tp _ e1 hB2 A2 (by omega) (by omega) ⟨fun e' he' z I3 hz f3 h11 => ?_, fun j c w hj => (by cases hj)⟩
        cases he'
        exact ⟨z, rfl, x_le (show 3 ≤ k + 1 by omega) (s_takesK (k := 0) h11 (by omega) ⟨0, rfl, by decide, fun q => absurd rfl q, fun _ => hQ.1 _ e2 0 _ ⟨⟨by decide, by decide⟩, fun q => by omega⟩ (x_fr_trans fr2 f3) h11⟩)⟩
      · refine hS (dp + 1) _ (i + 1) cs q_z _ (k + 1) _ L lp tp _ e1 hB2 A2 (by omega) (by omega) ⟨fun e' he' => (by cases he'), fun j' c' w' hj I3 a3 f3 A3 => ?_⟩
        cases hj
        have fr3 := x_fr_trans fr2 f3
        refine ⟨_, rfl, x_le (show 3 ≤ k + 1 by omega) (s_takes (k := 0) (by decide) (q_MB_fr hB fr3) A3 (fun q3 I4 f4 A4 => ?_) (fun q3 I4 f4 h11 => ?_))⟩
        · rw [if_pos q3] at e2
          cases e2
          refine ⟨1, rfl, by decide, fun _ => ?_, fun z => absurd z (by decide)⟩
          obtain ⟨b1, b2, b3, b4, b5⟩ := A4
          refine hQ.2 _ _ _ rfl _ (j + 1) (x_fr_trans (x_fr_trans fr3 f4) (q_fM12 _ _)) ⟨b1, b2, b3, b4, ?_⟩
          rw [x_u_same]; dsimp only; rw [b5]; omega
        · rw [if_neg q3] at e2
          cases e2
          exact ⟨0, rfl, by decide, fun z => absurd rfl z, fun _ => hQ.1 _ rfl 0 _ ⟨⟨by decide, by decide⟩, fun q => by omega⟩ (x_fr_trans fr3 f4) h11⟩
    · rw [if_pos hd6] at h
      cases h
      exact ⟨0, rfl, by decide, fun z => absurd rfl z, fun _ => hQ.1 _ rfl 0 _ ⟨⟨by decide, by decide⟩, fun q => by omega⟩ (x_fr_trans (q_fM10 _ _) f2) e2⟩
