/-! Reading bytes: what the methods answer -/
theorem x_u_self (f : Nat → Nat → Int) (a k : Nat) : x_u f a k (f a k) = f := by
  funext b j
  rw [x_u_eq]
  by_cases h : b = a ∧ j = k
  · rw [if_pos h, h.1, h.2]
  · rw [if_neg h]
theorem x_u_u (f : Nat → Nat → Int) (a k : Nat) (u v : Int) : x_u (x_u f a k u) a k v = x_u f a k v := by
  funext b j
  rw [x_u_eq, x_u_eq, x_u_eq]
  by_cases h : b = a ∧ j = k
  · rw [if_pos h, if_pos h]
  · rw [if_neg h, if_neg h, if_neg h]
def q_tk0 (I : Nat → Nat → Int) : Prop := 0 ≤ I 2 1 ∧ I 2 1 ≤ 240 ∧ ∀ k : Nat, (k : Int) < I 2 1 → 1 ≤ I 3 k ∧ I 3 k ≤ 255
def q_at (I : Nat → Nat → Int) (i : Int) : Int := if 0 ≤ i ∧ i < I 2 1 then I 3 i.toNat else -1
def q_pb (I : Nat → Nat → Int) (i : Int) : Int := ((q_s (I 3) (I 2 1).toNat i.toNat : Nat) : Int)
def q_dgI (I : Nat → Nat → Int) (i : Int) (m : Nat) : Int := ((q_dg (I 3) (I 2 1).toNat m i.toNat : Nat) : Int)
def q_nvI (I : Nat → Nat → Int) (i m : Int) : Int := q_nv (I 3) i.toNat m.toNat
theorem sm_at {g : x_G} {k : Nat} {Q : x_Q} {I L : Nat → Nat → Int} {lp tp : Nat} {i : Int} (h0 : q_tk0 I) (hi : x_rg i) (hq : Q [x_i (q_at I i)] (I, L, lp, tp)) : x_X g (k + 1) 99 [x_r 2, x_i i] (I, L, lp, tp) Q := by
  obtain ⟨h1, h2, h3⟩ := h0
  unfold q_at at hq
  refine v_at ⟨hi, fun c => ?_, fun c => ⟨⟨by omega, by omega⟩, fun c2 => ?_, fun c2 => ⟨⟨by omega, by omega⟩, ?_⟩⟩⟩
  · rw [if_neg (by omega)] at hq; exact hq
  · rw [if_neg (by omega)] at hq; exact hq
  · rw [if_pos ⟨c, c2⟩] at hq; exact hq
theorem s_pb_L {g : x_G} {k : Nat} {Q : x_Q} {I L : Nat → Nat → Int} {lp tp : Nat} (h0 : q_tk0 I) : ∀ (f i : Nat), (I 2 1).toNat - i = f → i ≤ 1000 → Q [x_i ((q_s (I 3) (I 2 1).toNat i : Nat) : Int)] (I, L, lp, tp) → x_S g (k + 1) 100 Q 2 [x_r 2, x_n, x_i (i : Int)] [] (I, L, lp, tp)
  | 0, i, hf, hi, hq => by
    obtain ⟨h1, h2, h3⟩ := h0
    refine v_pastBlanks_L2 ⟨⟨by omega, by omega⟩, ⟨by omega, by omega⟩, fun c => ?_, fun c => by omega⟩
    rw [q_s_fix (by omega)] at hq; exact hq
  | f + 1, i, hf, hi, hq => by
    have h0' := h0
    obtain ⟨h1, h2, h3⟩ := h0
    have hb := h3 i (by omega)
    refine v_pastBlanks_L2 ⟨⟨by omega, by omega⟩, ⟨by omega, by omega⟩, fun c => by omega, fun c => ⟨⟨by omega, by omega⟩, ⟨?_, ?_⟩, fun c2 => ?_, fun c2 => ?_⟩⟩
    · exact Int.le_trans (by decide) hb.1
    · exact Int.le_trans hb.2 (by decide)
    · rw [q_s_fix (i := i) (fun q => c2 q.2)] at hq; exact hq
    · rw [q_s_step (i := i) ⟨by omega, c2⟩] at hq
      exact s_pb_L h0' f (i + 1) (by omega) (by omega) hq
theorem sm_pb {g : x_G} {k : Nat} {Q : x_Q} {I L : Nat → Nat → Int} {lp tp : Nat} {i : Int} (h0 : q_tk0 I) (hi : 0 ≤ i ∧ i ≤ 1000) (hq : Q [x_i (q_pb I i)] (I, L, lp, tp)) : x_X g (k + 1) 100 [x_r 2, x_i i] (I, L, lp, tp) Q := by
  obtain ⟨n, rfl⟩ := Int.eq_ofNat_of_zero_le hi.1
  exact v_pastBlanks (s_pb_L h0 _ n rfl (by omega) hq)
theorem s_dg_L {g : x_G} {k : Nat} {Q : x_Q} {I L : Nat → Nat → Int} {lp tp a m : Nat} (h0 : q_tk0 I) (ha : a ≤ 1000) (hm : m ≤ 9) : ∀ (f j : Nat), m - j = f → j ≤ m → (∀ z : Int, z = ((j + q_dg (I 3) (I 2 1).toNat f (a + j) : Nat) : Int) → Q [x_i z] (I, L, lp, tp)) → x_S g (k + 1) 101 Q 2 [x_r 2, x_i (a : Int), x_i (m : Int), x_i ((a + j : Nat) : Int)] [] (I, L, lp, tp)
  | 0, j, hf, hj, hq => by
    obtain ⟨h1, h2, h3⟩ := h0
    refine v_digits_L2 ⟨⟨by omega, by omega⟩, ⟨by omega, by omega⟩, fun c => hq _ ?_, fun c => ⟨⟨by omega, by omega⟩, fun c2 => hq _ ?_, fun c2 => by omega⟩⟩
    · rw [q_dg]; omega
    · rw [q_dg]; omega
  | f + 1, j, hf, hj, hq => by
    have h0' := h0
    obtain ⟨h1, h2, h3⟩ := h0
    refine v_digits_L2 ⟨⟨by omega, by omega⟩, ⟨by omega, by omega⟩, fun c => hq _ ?_, fun c => ⟨⟨by omega, by omega⟩, fun c2 => by omega, fun c2 => ⟨⟨by omega, by omega⟩, ?_⟩⟩⟩
    · rw [q_dg, if_neg (by omega)]; omega
    · have e : ((a + j : Nat) : Int).toNat = a + j := rfl
      rw [e]
      have hb := h3 (a + j) c
      refine ⟨⟨Int.le_trans (by decide) hb.1, Int.le_trans hb.2 (by decide)⟩, fun c3 => hq _ ?_, fun c3 => ⟨fun c4 => hq _ ?_, fun c4 => ?_⟩⟩
      · rw [q_dg, if_neg (by omega)]; omega
      · rw [q_dg, if_neg (by omega)]; omega
      · rw [show ((a + j : Nat) : Int) + 1 = ((a + (j + 1) : Nat) : Int) by omega]
        refine s_dg_L h0' ha hm f (j + 1) (by omega) (by omega) (fun z hz => hq z ?_)
        rw [hz, q_dg, if_pos ⟨by omega, c3, c4⟩, Nat.add_assoc a j 1]
        omega
theorem sm_dg {g : x_G} {k : Nat} {Q : x_Q} {I L : Nat → Nat → Int} {lp tp m : Nat} {i : Int} (hm : m ≤ 9) (h0 : q_tk0 I) (hi : 0 ≤ i ∧ i ≤ 1000) (hq : Q [x_i (q_dgI I i m)] (I, L, lp, tp)) : x_X g (k + 1) 101 [x_r 2, x_i i, x_i (m : Int)] (I, L, lp, tp) Q := by
  obtain ⟨n, rfl⟩ := Int.eq_ofNat_of_zero_le hi.1
  refine v_digits (s_dg_L h0 (by omega) hm m 0 rfl (Nat.zero_le _) (fun z hz => ?_))
  rw [hz, Nat.zero_add]
  exact hq
def q_by (I : Nat → Nat → Int) (tp j : Nat) : Int := if tp = 180 then I 180 j else I 181 j
def q_bm (I : Nat → Nat → Int) (tp i : Nat) : Int := q_by I tp ((I 179 8).toNat + i) % 256
def q_lk0 (I : Nat → Nat → Int) (tp : Nat) : Prop := (tp = 180 ∨ tp = 181) ∧ 0 ≤ I 179 8 ∧ 0 ≤ I 179 9 ∧ I 179 9 ≤ 240 ∧ (I 179 8 + I 179 9 ≤ if tp = 180 then 240 else 960) ∧ 0 ≤ I 179 10 ∧ I 179 10 ≤ I 179 9 ∧ ∀ j : Nat, (j : Int) < I 179 9 → -128 ≤ q_by I tp ((I 179 8).toNat + j) ∧ q_by I tp ((I 179 8).toNat + j) ≤ 127
def q_lkN (I : Nat → Nat → Int) (tp : Nat) : Nat := q_s (q_bm I tp) (I 179 9).toNat (I 179 10).toNat
def q_lkA (I : Nat → Nat → Int) (tp : Nat) : Int := ((q_lkN I tp : Nat) : Int)
def q_lkV (I : Nat → Nat → Int) (tp : Nat) : Int := q_tk (q_bm I tp) (I 179 9).toNat (q_lkN I tp)
abbrev q_isD (I : Nat → Nat → Int) (tp : Nat) : Prop := I 179 10 < I 179 9 ∧ 48 ≤ q_bm I tp (I 179 10).toNat ∧ q_bm I tp (I 179 10).toNat ≤ 57
theorem q_lk0_read {g : x_G} {I : Nat → Nat → Int} {tp : Nat} (h : q_lk0 I tp) (hl : I 179 10 < I 179 9) : x_kb (x_sh g.2.2 tp).1 = true ∧ (0 ≤ I 179 8 + I 179 10 ∧ I 179 8 + I 179 10 < ((x_sh g.2.2 tp).2 : Int)) ∧ I tp (I 179 8 + I 179 10).toNat = q_by I tp ((I 179 8).toNat + (I 179 10).toNat) ∧ (-128 ≤ q_by I tp ((I 179 8).toNat + (I 179 10).toNat) ∧ q_by I tp ((I 179 8).toNat + (I 179 10).toNat) ≤ 127) := by
  obtain ⟨h1, h2, h3, h4, h5, h6, h7, h8⟩ := h
  have e : (I 179 8 + I 179 10).toNat = (I 179 8).toNat + (I 179 10).toNat := by omega
  rw [e]
  refine ⟨?_, ⟨by omega, ?_⟩, ?_, h8 _ (by omega)⟩
  · rcases h1 with rfl | rfl <;> rfl
  · rcases h1 with rfl | rfl
    · show _ < (240 : Int)
      rw [if_pos rfl] at h5; omega
    · show _ < (960 : Int)
      rw [if_neg (by decide)] at h5; omega
  · rcases h1 with rfl | rfl <;> rfl
theorem q_lk0_at {I : Nat → Nat → Int} {tp : Nat} {z : Int} (h : q_lk0 I tp) (h1 : 0 ≤ z) (h2 : z ≤ I 179 9) : q_lk0 (x_u I 179 10 z) tp := ⟨h.1, h.2.1, h.2.2.1, h.2.2.2.1, h.2.2.2.2.1, h1, h2, h.2.2.2.2.2.2.2⟩
theorem s_look_L {g : x_G} {k : Nat} {Q : x_Q} {L : Nat → Nat → Int} {lp tp : Nat} : ∀ (f : Nat) (I : Nat → Nat → Int), q_lk0 I tp → (I 179 9 - I 179 10).toNat = f → Q [x_i (q_lkV I tp)] (x_u I 179 10 (q_lkA I tp), L, lp, tp) → x_S g (k + 1) 194 Q 0 [x_r 179] [] (I, L, lp, tp)
  | 0, I, h, hf, hq => by
    have h' := h
    obtain ⟨h1, h2, h3, h4, h5, h6, h7, h8⟩ := h
    refine v_look_L0 ⟨⟨by omega, by omega⟩, ⟨by omega, by omega⟩, fun c => ?_, fun c => by omega⟩
    have e : q_lkN I tp = (I 179 10).toNat := q_s_fix (by omega)
    unfold q_lkV q_lkA at hq
    rw [e, show (((I 179 10).toNat : Nat) : Int) = I 179 10 by omega, x_u_self, q_tk, if_neg (by omega)] at hq
    exact hq
  | f + 1, I, h, hf, hq => by
    have h' := h
    obtain ⟨h1, h2, h3, h4, h5, h6, h7, h8⟩ := h
    have hl : I 179 10 < I 179 9 := by omega
    obtain ⟨r1, r2, r3, r4⟩ := q_lk0_read (g := g) h' hl
    refine v_look_L0 ⟨⟨by omega, by omega⟩, ⟨by omega, by omega⟩, fun c => by omega, fun c => ⟨r1, r2, ?_⟩⟩
    rw [r3]
    refine ⟨⟨Int.le_trans (by decide) r4.1, Int.le_trans r4.2 (by decide)⟩, fun c2 => ?_, fun c2 => ?_⟩
    · have e : q_lkN I tp = (I 179 10).toNat := q_s_fix (fun q => c2 (by have q2 := q.2; unfold q_bm at q2; omega))
      unfold q_lkV q_lkA at hq
      rw [e, show (((I 179 10).toNat : Nat) : Int) = I 179 10 by omega, x_u_self, q_tk, if_pos (by omega)] at hq
      rw [q_and255]
      exact hq
    · refine s_look_L f _ (q_lk0_at h' (by omega) (by omega)) ?_ ?_
      · rw [x_u_same, x_u_ne _ _ (by omega)]; omega
      · have e : q_lkN (x_u I 179 10 (I 179 10 + 1)) tp = q_lkN I tp := by
          unfold q_lkN
          rw [x_u_same, x_u_ne _ _ (by omega), q_s_step (i := (I 179 10).toNat) ⟨by omega, by unfold q_bm; omega⟩, show (I 179 10 + 1).toNat = (I 179 10).toNat + 1 by omega]
          rfl
        unfold q_lkV q_lkA
        rw [e, x_u_u]
        exact hq
theorem sm_look {g : x_G} {k : Nat} {Q : x_Q} {I L : Nat → Nat → Int} {lp tp : Nat} (h : q_lk0 I tp) (hq : Q [x_i (q_lkV I tp)] (x_u I 179 10 (q_lkA I tp), L, lp, tp)) : x_X g (k + 1) 194 [x_r 179] (I, L, lp, tp) Q := by
  have h2 := s_look_L (g := g) (k := k) (Q := Q) (L := L) (lp := lp) _ I h rfl hq
  intro hg d hd
  exact x_enter m_194 rfl rfl h2 hg d hd
theorem q_lk_ge {I : Nat → Nat → Int} {tp : Nat} (h : q_lk0 I tp) : 0 ≤ q_lkA I tp ∧ I 179 10 ≤ q_lkA I tp ∧ q_lkA I tp ≤ I 179 9 := by
  obtain ⟨h1, h2, h3, h4, h5, h6, h7, h8⟩ := h
  unfold q_lkA q_lkN
  have e1 := q_s_ge (q_bm I tp) (I 179 9).toNat (I 179 10).toNat
  have e2 := q_s_le (b := q_bm I tp) (n := (I 179 9).toNat) (i := (I 179 10).toNat) (by omega)
  omega
theorem q_bm_congr {I J : Nat → Nat → Int} {tp : Nat} (e8 : I 179 8 = J 179 8) (e180 : ∀ i, I 180 i = J 180 i) (e181 : ∀ i, I 181 i = J 181 i) : q_bm I tp = q_bm J tp := by
  funext i
  unfold q_bm q_by
  rw [e8, e180, e181]
theorem sm_look2 {g : x_G} {k : Nat} {Q : x_Q} {I L : Nat → Nat → Int} {lp tp : Nat} (J : Nat → Nat → Int) (he : I 179 10 = q_lkA J tp ∧ I 179 8 = J 179 8 ∧ I 179 9 = J 179 9 ∧ (∀ i, I 180 i = J 180 i) ∧ (∀ i, I 181 i = J 181 i)) (h : q_lk0 J tp) (hq : Q [x_i (q_lkV J tp)] (I, L, lp, tp)) : x_X g (k + 1) 194 [x_r 179] (I, L, lp, tp) Q := by
  obtain ⟨e10, e8, e9, e180, e181⟩ := he
  have hge := q_lk_ge h
  obtain ⟨h1, h2, h3, h4, h5, h6, h7, h8⟩ := h
  have eb := q_bm_congr (tp := tp) e8 e180 e181
  have hy : ∀ j, q_by I tp j = q_by J tp j := fun j => by unfold q_by; rw [e180, e181]
  have hN : q_lkN I tp = q_lkN J tp := by
    show q_s (q_bm I tp) (I 179 9).toNat (I 179 10).toNat = _
    rw [eb, e9, e10]
    exact q_s_idem _ _ _
  have h' : q_lk0 I tp := ⟨h1, by omega, by omega, by omega, by rw [e8, e9]; exact h5, by omega, by omega, fun j hj => by rw [hy, e8]; exact h8 j (by omega)⟩
  refine sm_look h' ?_
  unfold q_lkV q_lkA
  rw [hN, eb, e9, show ((q_lkN J tp : Nat) : Int) = I 179 10 from e10.symm, x_u_self]
  exact hq
theorem sm_isDigit {g : x_G} {k : Nat} {Q : x_Q} {I L : Nat → Nat → Int} {lp tp : Nat} (h : q_lk0 I tp) (hq : Q [x_i (x_b (q_isD I tp))] (I, L, lp, tp)) : x_X g (k + 1) 198 [x_r 179] (I, L, lp, tp) Q := by
  have h' := h
  obtain ⟨h1, h2, h3, h4, h5, h6, h7, h8⟩ := h
  have no : ∀ {z : Int}, z = 0 → ¬ q_isD I tp → Q [x_i z] (I, L, lp, tp) := fun e q => by rw [x_b, if_neg q] at hq; rw [e]; exact hq
  refine v_isDigit ⟨⟨by omega, by omega⟩, ⟨by omega, by omega⟩, fun c => no rfl (fun q => by have := q.1; omega), fun c => ?_⟩
  obtain ⟨r1, r2, r3, r4⟩ := q_lk0_read (g := g) h' c
  refine ⟨r1, r2, ?_⟩
  rw [r3]
  refine ⟨⟨Int.le_trans (by decide) r4.1, Int.le_trans r4.2 (by decide)⟩, fun c2 => no rfl (fun q => ?_), fun c2 => ⟨fun c3 => no rfl (fun q => ?_), fun c3 => ?_⟩⟩
  · have q1 := q.2.1; have q2 := q.2.2; unfold q_bm at q1 q2; omega
  · have q1 := q.2.1; have q2 := q.2.2; unfold q_bm at q1 q2; omega
  · rw [x_b, if_pos ⟨c, by unfold q_bm; omega, by unfold q_bm; omega⟩] at hq
    exact hq
