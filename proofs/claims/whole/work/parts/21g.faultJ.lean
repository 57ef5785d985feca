/-! fault, at J -/
theorem q_getDi {t : List Int} {k : Nat} (h : k < t.length) : t.getD k 0 ∈ t := by
  rw [show t.getD k 0 = t[k] by simp [List.getD, h]]
  exact List.getElem_mem h
theorem q_j_tape {I : Nat → Nat → Int} {lp : Nat} {a : q_A} (h : q_JC I lp a) : I 2 1 = ((j_t a).length : Int) ∧ (j_t a).length ≤ 240 ∧ ∀ k, k < (j_t a).length → 1 ≤ I 3 k ∧ I 3 k ≤ 255 := by
  obtain ⟨t1, t2, t3, t4⟩ := h.1
  exact ⟨t1, t2, fun k hk => by rw [t3 k hk]; exact t4 _ (q_getDi hk)⟩
theorem q_bm256 {x : Int} (h : 1 ≤ x ∧ x ≤ 255) : Int.bmod x 256 % 256 = x ∧ -128 ≤ Int.bmod x 256 ∧ Int.bmod x 256 ≤ 127 := by
  have e : Int.bmod x 256 = if x % 256 < (256 + 1) / 2 then x % 256 else x % 256 - 256 := rfl
  rw [e]
  by_cases c : x % 256 < (256 + 1) / 2
  · rw [if_pos c]; omega
  · rw [if_neg c]; omega
theorem q_j_MT {I I1 L : Nat → Nat → Int} {lp : Nat} {a : q_A} (h : q_JC I lp a) (hM : q_JM I1 L a) : q_MT I1 (I 3) (j_t a).length := by
  obtain ⟨t1, t2, t3, t4⟩ := h.1
  obtain ⟨m1, m2, m3, m4⟩ := hM.1
  refine ⟨m1, m2, fun j hj => ?_, fun j hj => ?_, hM.2.1.2.2.2.1.2.2.2.2⟩
  · rw [m3 j hj, t3 j hj]
    exact q_bm256 (t4 _ (q_getDi hj))
  · rw [t3 j hj]; exact t4 _ (q_getDi hj)
theorem q_MT_0 {I : Nat → Nat → Int} {b : Nat → Int} {n : Nat} (h : q_MT I b n) : q_MT (x_u I 179 0 0) b n := ⟨h.1, h.2.1, h.2.2.1, h.2.2.2.1, q_str_fr (S := []) h.2.2.2.2 (fun a k ha => x_u_ne _ _ (by omega))⟩
def q_fe {α : Type} (r : Nat ⊕ α) : Int := match r with
  | .inl e => (e : Int)
  | .inr _ => -1
def q_flt (b : Nat → Int) (n : Nat) (r : Nat ⊕ (List Int × q_AV)) (s : Int) : Int := if s = 0 then q_fe (q_off b n) else if s = 1 then q_fe r else if s = 2 then q_fe (q_rnd b n) else -2
abbrev q_fSc : List (Nat × Nat × Nat) := [(4, 2, 3), (5, 3, 4), (6, 0, 4), (7, 0, 40), (9, 2, 3), (10, 2, 3), (11, 0, 240), (13, 0, 8)]
abbrev q_fSm : List (Nat × Nat × Nat) := [(179, 0, 1), (179, 8, 15), (179, 17, 18), (179, 25, 26), (179, 27, 28), (185, 0, 4), (187, 0, 40), (188, 32, 40), (189, 4, 5)]
theorem m_read1 {g : x_G} {k : Nat} {Q : x_Q} {I L : Nat → Nat → Int} {lp tp : Nat} {FA : Nat → q_AV} {nl : Nat} {b : Nat → Int} {n : Nat} {r : Nat ⊕ (List Int × q_AV)} (hk : 90 ≤ k) (hL : q_LM I L FA nl) (hT : q_MT I b n) (h : q_rl b n = some r) (q1 : ∀ e, r = .inl e → e ≤ n → ∀ I', x_fr q_fH I I' → I' 179 11 = (e : Int) → Q [] (I', L, lp, 180)) (q2 : ∀ C a', r = .inr (C, a') → ∀ I', x_fr q_fH I I' → I' 179 11 = -1 → Q [] (I', L, lp, 180)) : x_X g k 210 [x_r 179, x_r 180, x_i 0, x_i (n : Int)] (I, L, lp, tp) Q := by
  obtain ⟨l1, l2, l3, l4, l5⟩ := hL
  obtain ⟨a1, a2, a3, a4, a5, a6⟩ := l4
  obtain ⟨t1, t2, t3, t4, t5⟩ := hT
  have e : ∀ j, q_by I 180 (0 + j) = I 180 j := fun j => by rw [Nat.zero_add]; rfl
  exact m_goThrough (beg := 0) (lt := fun j => if j = 0 then I 183 109 else if j = 1 then I 183 104 else if j = 2 then I 183 102 else if j = 3 then I 183 100 else if j = 4 then I 183 107 else I 183 110) (fun j hj => by
    rcases (show j = 0 ∨ j = 1 ∨ j = 2 ∨ j = 3 ∨ j = 4 ∨ j = 5 by omega) with rfl | rfl | rfl | rfl | rfl | rfl
    · exact a1
    · exact a2
    · exact a3
    · exact a4
    · exact a5
    · exact a6) hk h (Or.inl rfl) t2 (by rw [if_pos rfl]; omega) (fun j hj => by rw [e]; exact (t3 j hj).1) (fun j hj => by rw [e]; exact (t3 j hj).2) t4 ⟨rfl, rfl, rfl, rfl, rfl, rfl⟩ t5 q1 (fun C a' hr I' f' h1 _ => q2 C a' hr I' f' h1)
theorem q_LM_fs {S : List (Nat × Nat × Nat)} {I I' L : Nat → Nat → Int} {FA : Nat → q_AV} {nl : Nat} (h : q_LM I L FA nl) (f1 : x_fr S (x_u I 179 0 0) I') (hs : ∀ t ∈ S, t.1 ≠ 181 ∧ t.1 ≠ 182 ∧ t.1 ≠ 183 ∧ t.1 ≠ 195 ∧ t.1 < 5000) : q_LM I' L FA nl := q_LM_S f1 hs (q_LM_0 h)
theorem j_fault {g : x_G} {k : Nat} {w0 : x_W} (hJ : q_J w0) {s : Int} (hs : x_rg s) : q_call g (k + 140) 120 222 [x_i s] w0 := by
  obtain ⟨I, L, lp, tp⟩ := w0
  obtain ⟨a, hP, hC, hB, hM⟩ := hJ
  dsimp only at hC hB hM
  obtain ⟨h2, hn, hb⟩ := q_j_tape hC
  obtain ⟨r, hr⟩ : ∃ r, q_rl (I 3) (j_t a).length = some r := by
    cases e : q_rl (I 3) (j_t a).length with
    | none => exact absurd e (q_rl_tot _ hn)
    | some r => exact ⟨r, rfl⟩
  have hsta := hC.2.2.2.2.2.2.2.2.2.2.1
  have hstr := hC.2.2.2.2.2.2.2.2.2.2.2
  refine q_ask1 (z := q_flt (I 3) (j_t a).length r s) (Sc := q_fSc) (Sm := q_fSm) hP hC hB hM (by decide +kernel) (by decide) (by decide +kernel) (by decide +kernel) (by decide +kernel) (by decide +kernel) (fun Q hq => ?_) (fun I1 Q C1 M1 hq => ?_)
  · refine x_le (show 110 ≤ k + 140 by omega) (v_fault (k := 109) ⟨hs, fun e => ?_, fun e => ?_, fun e => ?_, fun e => ?_⟩)
    · subst e
      refine x_le (show 13 ≤ 109 by omega) (s_oRead (k := 0) rfl h2 hn hb hstr hsta (fun e he I1 f1 => ⟨_, rfl, ?_⟩) (fun R ru to he I1 f1 _ _ _ => ⟨_, rfl, ?_⟩))
      · have := hq I1 (x_fr_mono f1 (by decide))
        unfold q_flt at this
        rw [if_pos rfl, he] at this
        exact this
      · have := hq I1 (x_fr_mono f1 (by decide))
        unfold q_flt at this
        rw [if_pos rfl, he] at this
        exact this
    · subst e
      refine s_lread (by omega) rfl h2 hn hb hstr hr (fun e he I1 f1 => ⟨_, rfl, ?_⟩) (fun C a' he I1 f1 _ => ⟨_, rfl, ?_⟩)
      · have := hq I1 (x_fr_mono f1 (by decide))
        unfold q_flt at this
        rw [if_neg (by decide), if_pos rfl, he] at this
        exact this
      · have := hq I1 (x_fr_mono f1 (by decide))
        unfold q_flt at this
        rw [if_neg (by decide), if_pos rfl, he] at this
        exact this
    · subst e
      refine x_le (show 2 ≤ 109 by omega) (s_rdRound (k := 0) rfl h2 hn hb (fun e he I1 f1 => ⟨_, rfl, ?_⟩) (fun m V he I1 f1 _ => ⟨_, rfl, ?_⟩))
      · have := hq I1 (x_fr_mono f1 (by decide))
        unfold q_flt at this
        rw [if_neg (by decide), if_neg (by decide), if_pos rfl, he] at this
        exact this
      · have := hq I1 (x_fr_mono f1 (by decide))
        unfold q_flt at this
        rw [if_neg (by decide), if_neg (by decide), if_pos rfl, he] at this
        exact this
    · have := hq I (x_fr_refl _ _)
      unfold q_flt at this
      rw [if_neg e.1, if_neg e.2.1, if_neg e.2.2] at this
      exact this
  · have hT := q_MT_0 (q_j_MT hC M1)
    have hL := M1.2.1.2.2.2.1
    have f0 : x_fr q_fSm I1 (x_u I1 179 0 0) := x_fr_u (x_fr_refl _ _) rfl
    have m6 : I1 179 6 = ((j_t a).length : Int) := M1.1.1
    refine x_le (show 110 ≤ k + 140 by omega) (v_faultM (k := 108) ?_)
    rw [m6]
    refine ⟨hs, fun c => ⟨fun c0 => ⟨fun c1 => ⟨fun c2 => by omega, fun c2 => ?_⟩, fun c1 => ?_⟩, fun c0 => ?_⟩, fun c => ?_⟩
    · refine x_le (show 3 ≤ 108 by omega) (m_round (k := 0) hT (fun e he hen I2 f2 e11 => ⟨rfl, ?_⟩) (fun m V he I2 f2 e11 _ _ => ⟨rfl, ?_⟩))
      · have := hq I2 L 180 (x_fr_trans f0 (x_fr_mono f2 (by decide))) (q_LoR L) (q_LM_fs hL f2 (by decide))
        unfold q_flt at this
        rw [if_neg c0, if_neg c1, if_pos c2, he] at this
        dsimp only
        rw [e11]
        exact this
      · have := hq I2 L 180 (x_fr_trans f0 (x_fr_mono f2 (by decide))) (q_LoR L) (q_LM_fs hL f2 (by decide))
        unfold q_flt at this
        rw [if_neg c0, if_neg c1, if_pos c2, he] at this
        dsimp only
        rw [e11]
        exact this
    · refine m_read1 (by omega) (q_LM_0 hL) hT hr (fun e he hen I2 f2 e11 => ⟨rfl, fun c2 => ?_, fun c2 => by omega⟩) (fun C a' he I2 f2 e11 => ⟨rfl, fun c2 => ?_, fun c2 => by omega⟩)
      · have := hq I2 L 180 (x_fr_trans f0 (x_fr_mono f2 (by decide))) (q_LoR L) (q_LM_fs hL f2 (by decide))
        unfold q_flt at this
        rw [if_neg c0, if_pos c1, he] at this
        dsimp only
        rw [e11]
        exact this
      · have := hq I2 L 180 (x_fr_trans f0 (x_fr_mono f2 (by decide))) (q_LoR L) (q_LM_fs hL f2 (by decide))
        unfold q_flt at this
        rw [if_neg c0, if_pos c1, he] at this
        dsimp only
        rw [e11]
        exact this
    · refine x_le (show 13 ≤ 108 by omega) (m_office (k := 0) hT (fun e he hen I2 f2 e11 => ⟨rfl, fun c1 => ⟨fun c2 => ?_, fun c2 => by omega⟩, fun c1 => by omega⟩) (fun R ru to he I2 f2 e11 _ _ _ => ⟨rfl, fun c1 => ⟨fun c2 => ?_, fun c2 => by omega⟩, fun c1 => by omega⟩))
      · have := hq I2 L 180 (x_fr_trans f0 (x_fr_mono f2 (by decide))) (q_LoR L) (q_LM_fs hL f2 (by decide))
        unfold q_flt at this
        rw [if_pos c0, he] at this
        dsimp only
        rw [e11]
        exact this
      · have := hq I2 L 180 (x_fr_trans f0 (x_fr_mono f2 (by decide))) (q_LoR L) (q_LM_fs hL f2 (by decide))
        unfold q_flt at this
        rw [if_pos c0, he] at this
        dsimp only
        rw [e11]
        exact this
    · have := hq _ L tp f0 (q_LoR L) (q_LM_0 hL)
      unfold q_flt at this
      rw [if_neg (by omega), if_neg (by omega), if_neg (by omega)] at this
      exact this
