/-! round, count, seen, feed, end, at J -/
theorem j_round {g : x_G} {k : Nat} {w0 : x_W} (hJ : q_J w0) {r i : Int} (hr : x_rg r) (hi : x_rg i) : q_call g (k + 140) 129 239 [x_i r, x_i i] w0 := by
  obtain ⟨I, L, lp, tp⟩ := w0
  obtain ⟨a, hP, hC, hB, hM⟩ := hJ
  dsimp only at hC hB hM
  have n4 := hP.2.1.1
  refine q_ask1 (z := if (0 ≤ r ∧ r < (j_nr a : Int)) ∧ (0 ≤ i ∧ i ≤ 7) then j_RD a r.toNat i.toNat else -1000000) (Sc := []) (Sm := [(179, 0, 1)]) hP hC hB hM (by decide +kernel) (by decide) (by decide +kernel) (by decide +kernel) (by decide +kernel) (by decide +kernel) (fun Q hq => ?_) (fun I1 Q C1 M1 hq => ?_)
  · have hq := hq I (x_fr_refl _ _)
    have no : ¬ ((0 ≤ r ∧ r < (j_nr a : Int)) ∧ (0 ≤ i ∧ i ≤ 7)) → Q [x_i (-1000000)] (I, L, lp, tp) := fun h => by rw [if_neg h] at hq; exact hq
    refine x_le (show 2 ≤ k + 140 by omega) (v_round (k := 0) ?_)
    rw [hC.2.1.2.2.1.1]
    refine ⟨hr, fun c => no (by omega), fun c => ⟨⟨by omega, by omega⟩, fun c1 => no (by omega), fun c1 => ⟨hi, fun c2 => no (by omega), fun c2 => ⟨fun c3 => ?_, fun c3 => no (by omega)⟩⟩⟩⟩
    rw [if_pos (by omega)] at hq
    obtain ⟨j, rfl⟩ := Int.eq_ofNat_of_zero_le c
    obtain ⟨x, rfl⟩ := Int.eq_ofNat_of_zero_le c2
    rw [show ((j : Int)).toNat = j by omega, show ((x : Int)).toNat = x by omega] at hq ⊢
    rw [← hC.2.1.2.2.1.2 j (by omega) x (by omega)] at hq
    rcases (show j = 0 ∨ j = 1 ∨ j = 2 ∨ j = 3 by omega) with rfl | rfl | rfl | rfl
    · exact ⟨by decide, rfl, ⟨by omega, show _ < ((8 : Nat) : Int) by omega⟩, hq⟩
    · exact ⟨by decide, rfl, ⟨by omega, show _ < ((8 : Nat) : Int) by omega⟩, hq⟩
    · exact ⟨by decide, rfl, ⟨by omega, show _ < ((8 : Nat) : Int) by omega⟩, hq⟩
    · exact ⟨by decide, rfl, ⟨by omega, show _ < ((8 : Nat) : Int) by omega⟩, hq⟩
  · have hq := hq _ L tp (x_fr_u (x_fr_refl _ _) rfl) (q_LoR L) (q_LM_0 M1.2.1.2.2.2.1)
    have no : ¬ ((0 ≤ r ∧ r < (j_nr a : Int)) ∧ (0 ≤ i ∧ i ≤ 7)) → Q [x_i (-1000000)] (x_u I1 179 0 0, L, lp, tp) := fun h => by rw [if_neg h] at hq; exact hq
    refine x_le (show 2 ≤ k + 140 by omega) (v_roundM (k := 0) ?_)
    rw [M1.2.1.2.2.2.2.2.1.1]
    refine ⟨hr, fun c => no (by omega), fun c => ⟨⟨by omega, by omega⟩, fun c1 => no (by omega), fun c1 => ⟨hi, fun c2 => ?_, fun c2 => no (by omega)⟩⟩⟩
    rw [if_pos (by omega)] at hq
    obtain ⟨j, rfl⟩ := Int.eq_ofNat_of_zero_le c
    obtain ⟨x, rfl⟩ := Int.eq_ofNat_of_zero_le c2.1
    rw [show ((j : Int)).toNat = j by omega, show ((x : Int)).toNat = x by omega] at hq
    rw [show ((j : Int)).toNat = j by omega, show (8 * (j : Int) + (x : Int)).toNat = 8 * j + x by omega]
    obtain ⟨n, r1, r2, r3, r4⟩ := M1.2.1.2.2.2.2.2.1.2 j (by omega)
    rw [r1]
    refine ⟨⟨by omega, by omega⟩, ⟨by omega, by omega⟩, fun c3 => ?_, fun c3 => ⟨⟨by omega, by omega⟩, ?_⟩⟩
    · rw [r4 x (by omega) (by omega)] at hq; exact hq
    · rw [(r3 x (by omega)).1]; exact hq
def q_cnt (a : q_A) (w : Int) : Int := if w = 0 then (j_R a : Int) else if w = 1 then (j_nl a : Int) else if w = 2 then (j_nr a : Int) else if w = 3 then ((j_t a).length : Int) else if w = 4 then j_lh a else if w = 5 then q_vr (j_v a) else if w = 6 then q_vN (j_v a) 28 else if w = 7 then q_vN (j_v a) 27 else if w = 8 then q_sf2 (q_vN (j_v a)) (j_R a) 0 else if w = 9 then j_wb a else if w = 10 then (j_ns a : Int) else if w = 11 then ((q_dn (q_vN (j_v a)) : Nat) : Int) else if w = 12 then q_vN (j_v a) 29 else if w = 13 then (q_vn (j_v a) : Int) else -1000000
theorem q_shl0 (i : Nat) (h : i < 8) : x_shl 0 (i : Int) = 0 := by
  rcases (show i = 0 ∨ i = 1 ∨ i = 2 ∨ i = 3 ∨ i = 4 ∨ i = 5 ∨ i = 6 ∨ i = 7 by omega) with rfl | rfl | rfl | rfl | rfl | rfl | rfl | rfl <;> decide
theorem j_count {g : x_G} {k : Nat} {w0 : x_W} (hJ : q_J w0) {w : Int} (hw : x_rg w) : q_call g (k + 140) 173 285 [x_i w] w0 := by
  obtain ⟨I, L, lp, tp⟩ := w0
  obtain ⟨a, hP, hC, hB, hM⟩ := hJ
  dsimp only at hC hB hM
  have hR := q_R8 hP
  obtain ⟨D, hN, hL⟩ := q_Hk_d hP.2.2.2.1
  have hD := hN.2.2.2.2.2.2.2.1
  have e28 := hN.2.2.2.2.2.2.1
  have e29 := hL.2.1
  refine q_ask1 (z := q_cnt a w) (Sc := []) (Sm := [(179, 0, 1)]) hP hC hB hM (by decide +kernel) (by decide) (by decide +kernel) (by decide +kernel) (by decide +kernel) (by decide +kernel) (fun Q hq => ?_) (fun I1 Q C1 M1 hq => ?_)
  · have hq := hq I (x_fr_refl _ _)
    obtain ⟨h1, h2, ⟨h3, h4⟩, h5, h6, h7, ⟨h8, h9⟩, h10, h11, -⟩ := hC
    obtain ⟨k1, k2, ⟨k3, k4⟩, k5, k6, k7, k8⟩ := h2
    obtain ⟨nx, -, -, a5, -⟩ := k7
    obtain ⟨n1, ⟨d, d1, d2, d3⟩, n3, n4, n5, n6, n7⟩ := k6
    refine x_le (show 3 ≤ k + 140 by omega) (v_count (k := 1) ?_)
    refine ⟨hw, fun e => ?_, fun e => ?_, fun e => ?_, fun e => ?_, fun e => ?_, fun e => ?_, fun e => ?_, fun e => ?_, fun e => ?_, fun e => ?_, fun e => ?_, fun e => ?_, fun e => ?_, fun e => ?_, fun e => ?_⟩
    · subst e; rw [k1.1]; exact hq
    · subst e; rw [h3]; exact hq
    · subst e; rw [k3]; exact hq
    · subst e; rw [h1.1]; exact hq
    · subst e; rw [h5]; exact hq
    · subst e; rw [k5]; exact hq
    · subst e; rw [n7]; exact hq
    · subst e; rw [n6]; exact hq
    · subst e
      exact s_wall (k := 0) hR (fun r hr => (n1 r (by omega)).1) (fun r h1 h2 => (n1 r h2).1.trans (hN.2.1 r h1 h2).1) ⟨_, rfl, hq⟩
    · subst e; rw [h7]; exact hq
    · subst e; rw [h11]; exact hq
    · subst e; rw [d2, q_dn_eq d1 d3]; exact hq
    · subst e
      have n7' : I 18 7 = (D : Int) := n7.trans e28
      rw [n7']
      refine ⟨⟨by omega, by omega⟩, ?_⟩
      have e29' : min 60 (D : Int) = q_vN (j_v a) 29 := by omega
      rw [e29']; exact hq
    · subst e; rw [a5]; exact hq
    · obtain ⟨e0, e1, e2, e3, e4, e5, e6, e7, e8, e9, e10, e11, e12, e13⟩ := e
      unfold q_cnt at hq
      rw [if_neg e0, if_neg e1, if_neg e2, if_neg e3, if_neg e4, if_neg e5, if_neg e6, if_neg e7, if_neg e8, if_neg e9, if_neg e10, if_neg e11, if_neg e12, if_neg e13] at hq
      exact hq
  · have hq := hq _ L tp (x_fr_u (x_fr_refl _ _) rfl) (q_LoR L) (q_LM_0 M1.2.1.2.2.2.1)
    obtain ⟨h1, h2, h3, h4, h5, ⟨h6, h7⟩, h8⟩ := M1
    obtain ⟨k1, k2, k3, k4, k5, ⟨k6, k7⟩, k8, k9, k10⟩ := h2
    refine x_le (show 2 ≤ k + 140 by omega) (v_countM (k := 1) ?_)
    refine ⟨hw, fun e => ?_, fun e => ?_, fun e => ?_, fun e => ?_, fun e => ?_, fun e => ?_, fun e => ?_, fun e => ?_, fun e => ?_, fun e => ?_, fun e => ?_, fun e => ?_, fun e => ?_, fun e => ?_, fun e => ?_⟩
    · subst e; rw [k1]; exact hq
    · subst e; rw [h3]; exact hq
    · subst e; rw [k6]; exact hq
    · subst e; rw [h1.1]; exact hq
    · subst e; rw [h4]; exact hq
    · subst e; rw [k8]; exact hq
    · subst e; rw [k9 28 (by omega)]; exact hq
    · subst e; rw [k9 27 (by omega)]; exact hq
    · subst e
      exact m_workers (k := 0) hR k1 (fun r hr => k9 r (by omega)) ⟨_, rfl, hq⟩
    · subst e; rw [h5]; exact hq
    · subst e; rw [h8.1]; exact hq
    · subst e
      have loop : ∀ (j i b : Nat), i + j = j_R a → b < 256 → (∀ r, r < 8 → b.testBit r = decide (r < i ∧ q_vN (j_v a) (16 + r) = 1)) → x_S g 2 285 Q 46 [x_r 179, x_n, x_i (b : Int), x_i (i : Int)] [] (x_u I1 179 0 0, L, lp, tp) := by
        intro j
        induction j with
        | zero =>
          intro i b hi hb hbit
          refine v_countM_L46 (k := 1) ?_
          have e24 : x_u I1 179 0 0 179 24 = (j_R a : Int) := k1
          rw [e24]
          refine ⟨⟨by omega, by omega⟩, ⟨by omega, by omega⟩, fun _ => ?_, fun h => by omega⟩
          have eb : b = q_dn (q_vN (j_v a)) := by
            refine Nat.eq_of_testBit_eq (fun r => ?_)
            by_cases hr : r < 8
            · rw [hbit r hr, q_dn_bit _ hr, decide_eq_decide]
              refine ⟨fun h => h.2, fun h => ⟨?_, h⟩⟩
              by_cases hri : r < i
              · exact hri
              · have := (hN.2.1 r (by omega) hr).2
                omega
            · have h1 : 2 ^ 8 ≤ 2 ^ r := Nat.pow_le_pow_right (n := 2) (by decide) (by omega)
              have h2 := q_dn_lt (q_vN (j_v a))
              rw [Nat.testBit_lt_two_pow (by omega), Nat.testBit_lt_two_pow (by omega)]
          rw [eb]; exact hq
        | succ j ih =>
          intro i b hi hb hbit
          refine v_countM_L46 (k := 1) ?_
          have e24 : x_u I1 179 0 0 179 24 = (j_R a : Int) := k1
          have e16 : x_u I1 179 0 0 190 (16 + (i : Int)).toNat = q_vN (j_v a) (16 + i) := by
            rw [show (16 + (i : Int)).toNat = 16 + i by omega]
            exact k9 (16 + i) (by omega)
          rw [e24, e16]
          refine ⟨⟨by omega, by omega⟩, ⟨by omega, by omega⟩, fun h => by omega, fun _ => ⟨⟨by omega, by omega⟩, ?_⟩⟩
          rcases (hN.1 i (by omega)).2.2 with c | c
          · rw [c, q_shl0 i (by omega), q_or0 b hb]
            refine ih (i + 1) b (by omega) hb (fun r hr => ?_)
            rw [hbit r hr, decide_eq_decide]
            refine ⟨fun h => ⟨by omega, h.2⟩, fun h => ⟨?_, h.2⟩⟩
            by_cases e : r = i
            · subst e; rw [c] at h; exact absurd h.2 (by decide)
            · omega
          · obtain ⟨o1, o2⟩ := q_or1 b i hb (by omega)
            rw [c, o1]
            refine ih (i + 1) (b ||| 2 ^ i) (by omega) o2 (fun r hr => ?_)
            rw [q_or1_bit, hbit r hr]
            by_cases e : r = i
            · subst e
              simp [c]
            · have e1 : decide (i = r) = false := by simp; omega
              rw [e1, Bool.or_false, decide_eq_decide]
              exact ⟨fun h => ⟨by omega, h.2⟩, fun h => ⟨by omega, h.2⟩⟩
      exact loop (j_R a) 0 0 (by omega) (by decide) (fun r hr => by simp)
    · subst e; rw [k9 29 (by omega)]; exact hq
    · subst e; rw [k10.1]; exact hq
    · obtain ⟨e0, e1, e2, e3, e4, e5, e6, e7, e8, e9, e10, e11, e12, e13⟩ := e
      unfold q_cnt at hq
      rw [if_neg e0, if_neg e1, if_neg e2, if_neg e3, if_neg e4, if_neg e5, if_neg e6, if_neg e7, if_neg e8, if_neg e9, if_neg e10, if_neg e11, if_neg e12, if_neg e13] at hq
      exact hq
theorem j_seen {g : x_G} {k : Nat} {w0 : x_W} (hJ : q_J w0) {r t h : Int} (hr : x_rg r) (ht : x_rg t) (hh : h = 0 ∨ h = 1) : q_call g (k + 140) 167 259 [x_i r, x_i t, x_i h] w0 := by
  obtain ⟨I, L, lp, tp⟩ := w0
  obtain ⟨a, hP, hC, hB, hM⟩ := hJ
  dsimp only at hC hB hM
  have hR := q_R8 hP
  have n10 := hP.2.2.2.2.2.2.2
  have n4 := hP.2.2.2.2.1
  obtain ⟨la', sx1, sx2⟩ := hC.2.2.2.2.2.2.2.1
  refine x_le (show 5 ≤ k + 140 by omega) (c_seen (k := 0) hR hC.2.1.1.1 sx1 hC.2.2.2.2.2.2.2.2.1 n10 hr ht hh (fun c1 c2 c3 I1 f1 e1 s1 => ⟨_, rfl, ?_⟩) (fun c => ⟨_, rfl, ?_⟩))
  · have ela : la' = j_la a := sx2 (by omega)
    subst ela
    have M1 := q_JM_lo hP hM f1 (by decide)
    have hP' : q_JP (a.1, a.2.1, a.2.2.1, a.2.2.2.1, a.2.2.2.2.1, a.2.2.2.2.2.1, a.2.2.2.2.2.2.1, (q_es1 (j_es a) r.toNat t h, q_la1 (j_la a) r.toNat t h, j_ns a + 1)) := ⟨hP.1, hP.2.1, hP.2.2.1, hP.2.2.2.1, n4, hP.2.2.2.2.2.1, hP.2.2.2.2.2.2.1, show j_ns a + 1 ≤ 10 by omega⟩
    have hi := x_fr_hi f1 (by decide)
    have C1 : q_JC I1 lp (a.1, a.2.1, a.2.2.1, a.2.2.2.1, a.2.2.2.2.1, a.2.2.2.2.2.1, a.2.2.2.2.2.2.1, (q_es1 (j_es a) r.toNat t h, q_la1 (j_la a) r.toNat t h, j_ns a + 1)) := by
      obtain ⟨h1, h2, ⟨h3, h4⟩, h5, h6, h7, ⟨h8, h9⟩, h10, h11, h12, h13, h14⟩ := hC
      exact ⟨q_Tc_x h1 (f1 2 1 rfl) (fun k => f1 3 k rfl), q_Kc_s hR hP.2.1.1 h2 f1 (by decide) (by decide), ⟨(f1 1 13 rfl).trans h3, fun j hj => q_C1_s (by have : j < j_nl a := hj; omega) (h4 j hj) f1 (by decide)⟩, (f1 1 14 rfl).trans h5, h6, (f1 1 17 rfl).trans h7, ⟨(f1 21 6 rfl).trans h8, fun e => ⟨q_St24_s (h9 e).1 f1 (by decide), fun x hx => (f1 27 x rfl).trans ((h9 e).2 x hx)⟩⟩, ⟨_, s1, fun _ => rfl⟩, e1, q_Sf_fr h12 hi, q_sta_fr h13 hi, q_str_fr (S := []) h14 hi⟩
    have hB' : q_Bk I1 (j_z a) := by
      unfold q_Bk
      rw [f1 161 1 rfl, f1 161 3 rfl, f1 161 4 rfl]
      exact hB
    refine x_le (show 2 ≤ k + 140 by omega) (m_seen (k := 0) hR M1.2.1.1 M1.2.2.2.2.2.2 hr ht hh (fun _ _ _ I2 f2 s2 => ⟨rfl, ?_, rfl⟩) (fun h => absurd ⟨c1, c2, c3⟩ h))
    refine q_J_end hP' C1 hB' f2 (by decide +kernel) (by decide +kernel) ?_
    obtain ⟨h1, h2, h3, h4, h5, ⟨h6, h7⟩, h8⟩ := M1
    exact ⟨⟨(f2 179 6 rfl).trans h1.1, h1.2.1, fun k hk => (f2 180 k rfl).trans (h1.2.2.1 k hk), h1.2.2.2⟩, q_Km_s h2 f2 (by decide) (by decide), (f2 179 7 rfl).trans h3, (f2 179 29 rfl).trans h4, (f2 179 31 rfl).trans h5, ⟨(f2 179 61 rfl).trans h6, fun e x hx => (f2 202 x rfl).trans (h7 e x hx)⟩, s2⟩
  · refine x_le (show 2 ≤ k + 140 by omega) (m_seen (k := 0) hR hM.2.1.1 hM.2.2.2.2.2.2 hr ht hh (fun c1 c2 c3 => absurd ⟨c1, c2, c3⟩ c) (fun _ => ⟨rfl, q_J_same hP hC hB hM, rfl⟩))
theorem q_JC_t {S : List (Nat × Nat × Nat)} {I I' : Nat → Nat → Int} {lp : Nat} {a : q_A} {t : List Int} (hP : q_JP a) (h : q_JC I lp a) (hf : x_fr S I I') (hs : ∀ u ∈ S, u.1 = 2 ∨ u.1 = 3) (ht : q_Tc I' t) : q_JC I' lp (t, a.2) := by
  obtain ⟨h1, h2, ⟨h3, h4⟩, h5, h6, h7, ⟨h8, h9⟩, h10, h11, h12, h13, h14⟩ := h
  have hR := q_R8 hP
  have n4 := hP.2.2.2.2.1
  have f1 : x_fr [(2, 0, 0)] I I' → True := fun _ => trivial
  have e : ∀ b k, b ≠ 2 → b ≠ 3 → I' b k = I b k := fun b k h1 h2 => hf b k (x_nm k fun u m eb => by have := hs u m; omega)
  have hi : ∀ b k, 5000 ≤ b → I' b k = I b k := fun b k hb => e b k (by omega) (by omega)
  refine ⟨ht, ⟨q_Oc_ag hR h2.1 (fun b k hm => e b k ?_ ?_), q_Lc_ag h2.2.1 (fun b k hm => e b k ?_ ?_), ⟨(e 1 15 (by omega) (by omega)).trans h2.2.2.1.1, fun j hj x hx => (e (150 + j) x (by omega) (by omega)).trans (h2.2.2.1.2 j hj x hx)⟩, (e 1 16 (by omega) (by omega)).trans h2.2.2.2.1, q_St_eq h2.2.2.2.2.1 (fun k _ _ => e 18 k (by omega) (by omega)) (fun k _ => ⟨e 19 k (by omega) (by omega), e 20 k (by omega) (by omega)⟩), q_Ac_fr h2.2.2.2.2.2.1 (e 21 4 (by omega) (by omega)) (e 21 5 (by omega) (by omega)) (fun b k _ _ => e b k (by omega) (by omega)), fun x => (e 23 x (by omega) (by omega)).trans (h2.2.2.2.2.2.2 x)⟩, ⟨(e 1 13 (by omega) (by omega)).trans h3, fun j hj => q_C1_eq (h4 j hj) (fun i _ => e _ i (by omega) (by omega)) (e _ 2 (by omega) (by omega))⟩, (e 1 14 (by omega) (by omega)).trans h5, h6, (e 1 17 (by omega) (by omega)).trans h7, ⟨(e 21 6 (by omega) (by omega)).trans h8, fun ei => ⟨q_St_eq (h9 ei).1 (fun k _ _ => e 24 k (by omega) (by omega)) (fun k _ => ⟨e 25 k (by omega) (by omega), e 26 k (by omega) (by omega)⟩), fun x hx => (e 27 x (by omega) (by omega)).trans ((h9 ei).2 x hx)⟩⟩, q_Sx_eq h10 (fun r => e 163 r (by omega) (by omega)) (fun r => e 164 r (by omega) (by omega)), (e 162 6 (by omega) (by omega)).trans h11, q_Sf_fr h12 hi, q_sta_fr h13 hi, q_str_fr (S := []) h14 hi⟩
  · intro eb; subst eb; rw [x_nm k (by decide)] at hm; cases hm
  · intro eb; subst eb; rw [x_nm k (by decide)] at hm; cases hm
  · intro eb; subst eb; rw [x_nm k (by decide)] at hm; cases hm
  · intro eb; subst eb; rw [x_nm k (by decide)] at hm; cases hm
theorem q_JM_t {S : List (Nat × Nat × Nat)} {I I' L : Nat → Nat → Int} {a : q_A} {t : List Int} (h : q_JM I L a) (hf : x_fr S I I') (hs : ∀ u ∈ S, u.1 = 180 ∨ (u.1 = 179 ∧ u.2.2 ≤ 7 ∧ (u.2.2 ≤ 1 ∨ 6 ≤ u.2.1))) (ht : q_Tm I' t) : q_JM I' L (t, a.2) := by
  obtain ⟨h1, h2, h3, h4, h5, ⟨h6, h7⟩, h8⟩ := h
  have e : ∀ b k, b ≠ 180 → b ≠ 179 → I' b k = I b k := fun b k h1 h2 => hf b k (x_nm k fun u m eb => by have := hs u m; omega)
  have e9 : ∀ k, 7 ≤ k → I' 179 k = I 179 k := fun k hk => hf 179 k (by
    cases ee : x_mem S 179 k with
    | false => rfl
    | true =>
      obtain ⟨u, m1, m2, m3, m4⟩ := (x_mem_iff _ 179 k).mp ee
      have := hs u m1
      omega)
  obtain ⟨k1, k2, k3, k4, k5, ⟨k6, k7⟩, k8, k9, k10⟩ := h2
  obtain ⟨s1, s2, s3, s4⟩ := h8
  refine ⟨ht, ⟨(e9 24 (by omega)).trans k1, fun k hk => (e 184 k (by omega) (by omega)).trans (k2 k hk), fun k hk => (e 186 k (by omega) (by omega)).trans (k3 k hk), q_LM_fr (S := []) k4 (fun k => e 181 k (by omega) (by omega)) (fun k => e 182 k (by omega) (by omega)) (fun k => e 183 k (by omega) (by omega)) (fun k => e 195 k (by omega) (by omega)) (fun b k hb => e b k (by omega) (by omega)) (fun _ => rfl), ?_, ⟨(e9 26 (by omega)).trans k6, fun j hj => q_Rm_eq (k7 j hj) (fun k => e 188 k (by omega) (by omega)) (fun k => e 189 k (by omega) (by omega))⟩, (e9 30 (by omega)).trans k8, fun x hx => (e 190 x (by omega) (by omega)).trans (k9 x hx), ⟨(e9 46 (by omega)).trans k10.1, k10.2.1, fun j hj k hk => (e 196 _ (by omega) (by omega)).trans (k10.2.2 j hj k hk)⟩⟩, (e9 7 (by omega)).trans h3, (e9 29 (by omega)).trans h4, (e9 31 (by omega)).trans h5, ⟨(e9 61 (by omega)).trans h6, fun ei x hx => (e 202 x (by omega) (by omega)).trans (h7 ei x hx)⟩, ⟨(e9 55 (by omega)).trans s1, s2, fun k hk => by rw [e 197 k (by omega) (by omega), e 198 k (by omega) (by omega), e 201 k (by omega) (by omega)]; exact s3 k hk, fun r hr T t0 t1 => ?_⟩⟩
  · unfold q_LH
    rw [e9 29 (by omega)]
    exact k5
  · exact (s4 r hr T t0 t1).trans ⟨fun h k hk => by rw [e 197 k (by omega) (by omega), e 198 k (by omega) (by omega), e 201 k (by omega) (by omega)]; exact h k hk, fun h k hk => by have := h k hk; rw [e 197 k (by omega) (by omega), e 198 k (by omega) (by omega), e 201 k (by omega) (by omega)] at this; exact this⟩
theorem j_feed {g : x_G} {k : Nat} {w0 : x_W} (hJ : q_J w0) {b1 b2 b3 b4 b5 : Int} (h1 : x_rg b1) (h2 : x_rg b2) (h3 : x_rg b3) (h4 : x_rg b4) (h5 : x_rg b5) : q_call g (k + 140) 118 192 [x_i b1, x_i b2, x_i b3, x_i b4, x_i b5] w0 := by
  obtain ⟨I, L, lp, tp⟩ := w0
  obtain ⟨a, hP, hC, hB, hM⟩ := hJ
  dsimp only at hC hB hM
  refine x_le (show 3 ≤ k + 140 by omega) (s_feed (k := 0) hC.1 (fun c => ⟨_, rfl, ?_⟩) (fun c I1 f1 t1 => ⟨_, rfl, ?_⟩))
  · exact x_le (show 2 ≤ k + 140 by omega) (s_feedM (k := 0) h1 h2 h3 h4 h5 hM.1 (fun _ => ⟨rfl, q_J_same hP hC hB hM, rfl⟩) (fun c' => by omega))
  · have hP' : q_JP (j_t a ++ q_fb b1 b2 b3 b4 b5, a.2) := hP
    have C1 := q_JC_t hP hC f1 (by decide) t1
    have M1 := q_JM_lo hP hM f1 (by decide)
    have hB' : q_Bk I1 (j_z (j_t a ++ q_fb b1 b2 b3 b4 b5, a.2)) := by
      unfold q_Bk
      rw [f1 161 1 rfl, f1 161 3 rfl, f1 161 4 rfl]
      exact hB
    exact x_le (show 2 ≤ k + 140 by omega) (s_feedM (k := 0) h1 h2 h3 h4 h5 M1.1 (fun c' => by omega) (fun _ I2 f2 t2 => ⟨rfl, q_J_end hP' C1 hB' f2 (by decide +kernel) (by decide +kernel) (q_JM_t M1 f2 (by decide) t2), rfl⟩))
theorem j_end {g : x_G} {k : Nat} {w0 : x_W} (hJ : q_J w0) {n : Int} (hn : x_rg n) : q_call g (k + 140) 119 193 [x_i n] w0 := by
  obtain ⟨I, L, lp, tp⟩ := w0
  obtain ⟨a, hP, hC, hB, hM⟩ := hJ
  dsimp only at hC hB hM
  refine x_le (show 2 ≤ k + 140 by omega) (s_end (k := 0) hn hC.1 (fun c => ⟨_, rfl, ?_⟩) (fun c I1 f1 t1 => ⟨_, rfl, ?_⟩))
  · exact x_le (show 1 ≤ k + 140 by omega) (s_endM (k := 0) hn hM.1 (fun _ => ⟨rfl, q_J_same hP hC hB hM, rfl⟩) (fun c' => absurd c' c))
  · have hP' : q_JP ((j_t a).take n.toNat, a.2) := hP
    have C1 := q_JC_t hP hC f1 (by decide) t1
    have M1 := q_JM_lo hP hM f1 (by decide)
    have hB' : q_Bk I1 (j_z ((j_t a).take n.toNat, a.2)) := by
      unfold q_Bk
      rw [f1 161 1 rfl, f1 161 3 rfl, f1 161 4 rfl]
      exact hB
    exact x_le (show 1 ≤ k + 140 by omega) (s_endM (k := 0) hn M1.1 (fun c' => absurd c c') (fun _ I2 f2 t2 => ⟨rfl, q_J_end hP' C1 hB' f2 (by decide +kernel) (by decide +kernel) (q_JM_t M1 f2 (by decide) t2), rfl⟩))
