/-! a new office: the class -/
abbrev q_fOc : List (Nat × Nat × Nat) := [(14, 3, 4), (15, 0, 4), (16, 0, 40), (17, 0, 72)]
theorem s_oCopy {g : x_G} {k : Nat} {Q : x_Q} {I L : Nat → Nat → Int} {lp tp R : Nat} {ru to : Nat → Int} (hW : q_Wo R ru to) (e3 : I 5 3 = (R : Int)) (e6 : ∀ x, x < 4 → I 6 x = ru x) (e7 : ∀ x, x < 5 * R → I 7 x = to x) (hq : ∀ I', x_fr q_fOc I I' → q_Oc I' R ru to → Q [] (I', L, lp, tp)) : x_X g (k + 3) 51 [x_r 14, x_r 5] (I, L, lp, tp) Q := by
  have hR : R ≤ 8 := by rcases hW.1 with h | h <;> omega
  have rg : ∀ r, r < R → (0 ≤ to (5 * r) ∧ to (5 * r) ≤ 3) ∧ (0 ≤ to (5 * r + 1) ∧ to (5 * r + 1) ≤ 9) := fun r hr => ⟨(hW.2.2 r hr).1, (hW.2.2 r hr).2.1⟩
  have u1 : ∀ (j i : Nat), q_st to (j : Int) i = q_sd (to (5 * j)) (to (5 * j + 1)) to i := fun j i => by unfold q_st; rw [if_neg (by omega)]; rfl
  have u2 : ∀ i : Nat, q_st to (-1) i = q_sd 0 0 to i := fun i => if_pos rfl
  have at16 : ∀ (I1 : Nat → Nat → Int), (∀ x, x < 5 * R → I1 16 x = to x) → ∀ j, j < R → I1 16 ((j : Int) * 5 + 0).toNat = to (5 * j) ∧ I1 16 ((j : Int) * 5 + 1).toNat = to (5 * j + 1) := fun I1 h j hj => by
    rw [show ((j : Int) * 5 + 0).toNat = 5 * j by omega, show ((j : Int) * 5 + 1).toNat = 5 * j + 1 by omega]
    exact ⟨h _ (by omega), h _ (by omega)⟩
  have l28 : ∀ (i : Nat), i < R → (∀ I1, x_fr q_fOc I I1 → I1 14 3 = (R : Int) → (∀ x, x < 4 → I1 15 x = ru x) → (∀ x, x < 5 * R → I1 16 x = to x) → (∀ t f : Nat, t < i + 1 → f < R → I1 17 (8 * f + t) = q_st to f t) → (∀ t : Nat, t < i + 1 → I1 17 (64 + t) = q_st to (-1) t) → x_S g (k + 3) 51 Q 22 [x_r 14, x_n, x_i ((i : Int) + 1), x_n] [] (I1, L, lp, tp)) → ∀ (m j : Nat) (I1 : Nat → Nat → Int), j + m = R → x_fr q_fOc I I1 → I1 14 3 = (R : Int) → (∀ x, x < 4 → I1 15 x = ru x) → (∀ x, x < 5 * R → I1 16 x = to x) → (∀ t f : Nat, t < i → f < R → I1 17 (8 * f + t) = q_st to f t) → (∀ f : Nat, f < j → I1 17 (8 * f + i) = q_st to f i) → (∀ t : Nat, t < i → I1 17 (64 + t) = q_st to (-1) t) → x_S g (k + 3) 51 Q 28 [x_r 14, x_n, x_i (i : Int), x_i (j : Int)] [] (I1, L, lp, tp) := by
    intro i hi K m
    induction m with
    | zero =>
      intro j I1 hj f1 a3 a5 a6 c1 c2 c3
      obtain ⟨b0, b1⟩ := at16 I1 a6 i hi
      have ri := rg i hi
      have go : ∀ v, v = q_st to (-1) i → x_S g (k + 3) 51 Q 22 [x_r 14, x_n, x_i ((i : Int) + 1), x_n] [] (x_u I1 17 (64 + (i : Int)).toNat v, L, lp, tp) := fun v hv => by
        rw [show (64 + (i : Int)).toNat = 64 + i by omega]
        refine K _ (x_fr_u (k := 64 + i) f1 (x_memI (17, 0, 72) (by decide) rfl (Nat.zero_le _) (show 64 + i < 72 by omega))) a3 (fun x hx => a5 x hx) (fun x hx => a6 x hx) (fun t f ht hf => ?_) (fun t ht => ?_)
        · rw [x_u_ne _ _ (by omega)]
          by_cases c : t = i
          · subst c; exact c2 f (by omega)
          · exact c1 t f (by omega) hf
        · by_cases c : t = i
          · subst c; rw [x_u_same]; exact hv
          · rw [x_u_ne _ _ (by omega)]; exact c3 t (by omega)
      refine v_oCopy_L28 (k := k) ?_
      rw [a3, b0, b1]
      refine ⟨⟨by omega, by omega⟩, ⟨by omega, by omega⟩, fun _ => ⟨⟨by omega, by omega⟩, ⟨by omega, by omega⟩, fun c => ⟨⟨by omega, by omega⟩, ⟨by omega, by omega⟩, ⟨by omega, by omega⟩, go _ ?_⟩, fun c => ⟨⟨by omega, by omega⟩, ⟨by omega, by omega⟩, ⟨by omega, by omega⟩, go _ ?_⟩⟩, fun h => by omega⟩
      · rw [u2]; unfold q_sd; rw [if_neg c]; rfl
      · rw [u2]; unfold q_sd; rw [if_pos c]; rfl
    | succ m ih =>
      intro j I1 hj f1 a3 a5 a6 c1 c2 c3
      obtain ⟨b0, b1⟩ := at16 I1 a6 i hi
      obtain ⟨d0, d1⟩ := at16 I1 a6 j (by omega)
      have ri := rg i hi
      have rj := rg j (by omega)
      have go : ∀ v, v = q_st to (j : Int) i → x_S g (k + 3) 51 Q 28 [x_r 14, x_n, x_i (i : Int), x_i ((j : Int) + 1)] [] (x_u I1 17 ((j : Int) * 8 + (i : Int)).toNat v, L, lp, tp) := fun v hv => by
        rw [show ((j : Int) * 8 + (i : Int)).toNat = 8 * j + i by omega]
        refine ih (j + 1) _ (by omega) (x_fr_u (k := 8 * j + i) f1 (x_memI (17, 0, 72) (by decide) rfl (Nat.zero_le _) (show 8 * j + i < 72 by omega))) a3 (fun x hx => a5 x hx) (fun x hx => a6 x hx) (fun t f ht hf => ?_) (fun f hf => ?_) (fun t ht => ?_)
        · rw [x_u_ne _ _ (by omega)]; exact c1 t f ht hf
        · by_cases c : f = j
          · subst c; rw [x_u_same]; exact hv
          · rw [x_u_ne _ _ (by omega)]; exact c2 f (by omega)
        · rw [x_u_ne _ _ (by omega)]; exact c3 t ht
      refine v_oCopy_L28 (k := k) ?_
      rw [a3, b0, b1, d0, d1]
      refine ⟨⟨by omega, by omega⟩, ⟨by omega, by omega⟩, fun h => by omega, fun _ => ⟨⟨by omega, by omega⟩, ⟨by omega, by omega⟩, ⟨by omega, by omega⟩, ⟨by omega, by omega⟩, ⟨by omega, by omega⟩, fun c => ⟨⟨by omega, by omega⟩, ⟨by omega, by omega⟩, ⟨by omega, by omega⟩, go _ ?_⟩, fun c => ⟨⟨by omega, by omega⟩, ⟨by omega, by omega⟩, ⟨by omega, by omega⟩, go _ ?_⟩⟩⟩
      · rw [u1]; unfold q_sd; rw [if_neg c]; rfl
      · rw [u1]; unfold q_sd; rw [if_pos c]; rfl
  have l22 : ∀ (m i : Nat) (I1 : Nat → Nat → Int), i + m = R → x_fr q_fOc I I1 → I1 14 3 = (R : Int) → (∀ x, x < 4 → I1 15 x = ru x) → (∀ x, x < 5 * R → I1 16 x = to x) → (∀ t f : Nat, t < i → f < R → I1 17 (8 * f + t) = q_st to f t) → (∀ t : Nat, t < i → I1 17 (64 + t) = q_st to (-1) t) → x_S g (k + 3) 51 Q 22 [x_r 14, x_n, x_i (i : Int), x_n] [] (I1, L, lp, tp) := by
    intro m
    induction m with
    | zero =>
      intro i I1 hi f1 a3 a5 a6 c1 c3
      refine v_oCopy_L22 (k := k) ?_
      rw [a3]
      refine ⟨⟨by omega, by omega⟩, ⟨by omega, by omega⟩, fun _ => hq I1 f1 ⟨a3, a5, a6, fun f t hf ht => c1 t f (by omega) hf, fun t ht => c3 t (by omega)⟩, fun h => by omega⟩
    | succ m ih =>
      intro i I1 hi f1 a3 a5 a6 c1 c3
      refine v_oCopy_L22 (k := k) ?_
      rw [a3]
      refine ⟨⟨by omega, by omega⟩, ⟨by omega, by omega⟩, fun h => by omega, fun _ => ?_⟩
      exact l28 i (by omega) (fun I2 f2 b3 b5 b6 d1 d3 => ih (i + 1) I2 (by omega) f2 b3 b5 b6 d1 d3) R 0 I1 (by omega) f1 a3 a5 a6 c1 (fun f hf => absurd hf (by omega)) c3
  refine v_oCopy (k := k) ?_
  rw [e3]
  have cp : ∀ b x, (x_u (x_cp (x_cp I 6 15 0 0 4) 7 16 0 0 40) 14 3 (R : Int)) b x = if b = 14 ∧ x = 3 then (R : Int) else if b = 16 ∧ 0 ≤ x ∧ x < 0 + 40 then I 7 x else if b = 15 ∧ 0 ≤ x ∧ x < 0 + 4 then I 6 x else I b x := fun b x => by
    rw [x_u_eq, x_cp_eq]
    by_cases c1 : b = 14 ∧ x = 3
    · rw [if_pos c1, if_pos c1]
    · rw [if_neg c1, if_neg c1]
      by_cases c2 : b = 16 ∧ 0 ≤ x ∧ x < 0 + 40
      · rw [if_pos c2, if_pos c2, x_cp_eq, if_neg (by omega), show 0 + (x - 0) = x by omega]
      · rw [if_neg c2, if_neg c2, x_cp_eq, show 0 + (x - 0) = x by omega]
  refine l22 R 0 _ (by omega) (fun b x hm => ?_) ?_ (fun x hx => ?_) (fun x hx => ?_) (fun t f ht => absurd ht (by omega)) (fun t ht => absurd ht (by omega))
  · rw [cp]
    have h14 : ¬ (b = 14 ∧ x = 3) := fun c => by obtain ⟨rfl, rfl⟩ := c; exact absurd hm (by decide)
    have h16 : ¬ (b = 16 ∧ 0 ≤ x ∧ x < 0 + 40) := fun c => by
      obtain ⟨rfl, c1, c2⟩ := c
      rw [show x_mem q_fOc 16 x = true from x_memI (16, 0, 40) (by decide) rfl (Nat.zero_le _) (show x < 40 by omega)] at hm; cases hm
    have h15 : ¬ (b = 15 ∧ 0 ≤ x ∧ x < 0 + 4) := fun c => by
      obtain ⟨rfl, c1, c2⟩ := c
      rw [show x_mem q_fOc 15 x = true from x_memI (15, 0, 4) (by decide) rfl (Nat.zero_le _) (show x < 4 by omega)] at hm; cases hm
    rw [if_neg h14, if_neg h16, if_neg h15]
  · exact x_u_same _ _ _ _
  · rw [cp, if_neg (by omega), if_neg (by omega), if_pos (by omega)]; exact e6 x hx
  · rw [cp, if_neg (by omega), if_pos (by omega)]; exact e7 x hx
def q_N0 (R : Nat) (ru to : Nat → Int) : Nat → Int := fun x => if x < 8 then (if x < R then to (5 * x + 2) else 0) else if x = 24 then ru 2 else if x = 25 then ru 0 else if x = 26 then ru 3 else 0
theorem q_N0_k {R : Nat} {ru to : Nat → Int} (hW : q_Wo R ru to) (h2 : 2 ≤ R) : q_Nk R (q_N0 R ru to) 0 := by
  have hR : R ≤ 8 := by rcases hW.1 with h | h <;> omega
  obtain ⟨r0, r1, r2, r3⟩ := hW.2.1 (by omega)
  have z : ∀ x, 8 ≤ x → x < 24 → q_N0 R ru to x = 0 := fun x h1 h2 => by unfold q_N0; rw [if_neg (by omega), if_neg (by omega), if_neg (by omega), if_neg (by omega)]
  have z2 : ∀ x, 27 ≤ x → q_N0 R ru to x = 0 := fun x h1 => by unfold q_N0; rw [if_neg (by omega), if_neg (by omega), if_neg (by omega), if_neg (by omega)]
  refine ⟨fun r hr => ⟨?_, by rw [z (8 + r) (by omega) (by omega)]; omega, by rw [z (16 + r) (by omega) (by omega)]; omega⟩, fun r h1 h2 => ⟨?_, z (16 + r) (by omega) (by omega)⟩, fun _ => r2, (show 0 ≤ ru 0 ∧ ru 0 ≤ 99 by omega), (show 0 ≤ ru 3 ∧ ru 3 ≤ 60 by omega), by rw [z2 27 (by omega)]; omega, z2 28 (by omega), by omega, fun x h1 _ => by rw [z2 x (by omega)]; omega⟩
  · unfold q_N0
    rw [if_pos hr]
    by_cases c : r < R
    · rw [if_pos c]; exact (hW.2.2 r c).2.2.1
    · rw [if_neg c]; omega
  · unfold q_N0
    rw [if_pos h2, if_neg (by omega)]
theorem s_stBegin {g : x_G} {k : Nat} {Q : x_Q} {I L : Nat → Nat → Int} {lp tp R : Nat} {ru to : Nat → Int} (hR : R ≤ 8) (hO : q_Oc I R ru to) (hq : ∀ I', x_fr [(18, 2, 8), (19, 0, 8), (20, 0, 8)] I I' → q_St I' 18 (q_N0 R ru to) → Q [] (I', L, lp, tp)) : x_X g (k + 2) 91 [x_r 18, x_r 14] (I, L, lp, tp) Q := by
  have loop : ∀ (m i : Nat) (I1 : Nat → Nat → Int), i + m = 8 → x_fr [(18, 2, 8), (19, 0, 8), (20, 0, 8)] I I1 → (∀ x, x < i → I1 19 x = q_N0 R ru to x ∧ I1 20 x = 0) → x_S g (k + 2) 91 Q 2 [x_r 18, x_r 14, x_i (i : Int)] [] (I1, L, lp, tp) := by
    intro m
    induction m with
    | zero =>
      intro i I1 hi f1 h
      have e2 : I1 15 2 = ru 2 := (f1 15 2 rfl).trans (hO.2.1 2 (by omega))
      have e0 : I1 15 0 = ru 0 := (f1 15 0 rfl).trans (hO.2.1 0 (by omega))
      have e3 : I1 15 3 = ru 3 := (f1 15 3 rfl).trans (hO.2.1 3 (by omega))
      refine v_begin_L2 (k := k) ⟨⟨by omega, by omega⟩, fun _ => ?_, fun h => by omega⟩
      rw [e2, e0, e3]
      refine hq _ (x_fr_u (x_fr_u (x_fr_u (x_fr_u (x_fr_u (x_fr_u f1 rfl) rfl) rfl) rfl) rfl) rfl) ⟨fun r hr => ⟨(h r (by omega)).1, (h r (by omega)).2.trans ?_⟩, ⟨0, by decide, rfl, fun r hr => ?_⟩, rfl, rfl, rfl, rfl, rfl⟩
      · unfold q_N0; rw [if_neg (by omega), if_neg (by omega), if_neg (by omega), if_neg (by omega)]
      · unfold q_N0; rw [if_neg (by omega), if_neg (by omega), if_neg (by omega), if_neg (by omega), Nat.zero_testBit]; rfl
    | succ m ih =>
      intro i I1 hi f1 h
      have e3 : I1 14 3 = (R : Int) := (f1 14 3 rfl).trans hO.1
      have go : ∀ v, v = q_N0 R ru to i → x_S g (k + 2) 91 Q 2 [x_r 18, x_r 14, x_i ((i : Int) + 1)] [] (x_u (x_u I1 19 ((i : Int)).toNat v) 20 ((i : Int)).toNat 0, L, lp, tp) := fun v hv => by
        rw [show ((i : Int)).toNat = i by omega]
        refine ih (i + 1) _ (by omega) (x_fr_u (k := i) (x_fr_u (k := i) f1 (x_memI (19, 0, 8) (by decide) rfl (Nat.zero_le _) (show i < 8 by omega))) (x_memI (20, 0, 8) (by decide) rfl (Nat.zero_le _) (show i < 8 by omega))) (fun x hx => ?_)
        by_cases c : x = i
        · subst c; exact ⟨(x_u_ne _ _ (by omega)).trans ((x_u_same _ _ _ _).trans hv), x_u_same _ _ _ _⟩
        · exact ⟨(x_u_ne _ _ (by omega)).trans ((x_u_ne _ _ (by omega)).trans (h x (by omega)).1), (x_u_ne _ _ (by omega)).trans ((x_u_ne _ _ (by omega)).trans (h x (by omega)).2)⟩
      refine v_begin_L2 (k := k) ⟨⟨by omega, by omega⟩, fun h => by omega, fun _ => ?_⟩
      rw [e3]
      refine ⟨⟨by omega, by omega⟩, fun c => ⟨⟨by omega, by omega⟩, go _ ?_⟩, fun c => ⟨⟨by omega, by omega⟩, ⟨by omega, by omega⟩, go _ ?_⟩⟩
      · unfold q_N0; rw [if_pos (by omega), if_neg (by omega)]
      · rw [show ((i : Int) * 5 + 2).toNat = 5 * i + 2 by omega, f1 16 _ rfl, hO.2.2.1 _ (by omega)]
        unfold q_N0; rw [if_pos (by omega), if_pos (by omega)]
  exact v_begin (k := k) (loop 8 0 I (by omega) (x_fr_refl _ _) (fun x hx => absurd hx (by omega)))
theorem s_sForget {g : x_G} {k : Nat} {Q : x_Q} {I L : Nat → Nat → Int} {lp tp : Nat} (hq : ∀ I', x_fr [(162, 6, 7), (163, 0, 8), (164, 0, 8)] I I' → I' 162 6 = 0 → q_Sc I' (fun _ => 0) (fun _ => 1000000) → Q [] (I', L, lp, tp)) : x_X g (k + 1) 81 [x_r 162] (I, L, lp, tp) Q := by
  have loop : ∀ (m i : Nat) (I1 : Nat → Nat → Int), i + m = 8 → x_fr [(162, 6, 7), (163, 0, 8), (164, 0, 8)] I I1 → I1 162 6 = 0 → (∀ x, x < i → I1 163 x = 0 ∧ I1 164 x = 1000000) → x_S g (k + 1) 81 Q 5 [x_r 162, x_i (i : Int)] [] (I1, L, lp, tp) := by
    intro m
    induction m with
    | zero =>
      intro i I1 hi f1 e6 h
      exact v_sForget_L5 (k := k) ⟨⟨by omega, by omega⟩, fun _ => hq I1 f1 e6 (fun r hr => ⟨(h r (by omega)).1, (h r (by omega)).2, (show (0 : Int) ≤ 0 ∧ (0 : Int) ≤ 1000 by decide), (show (0 : Int) ≤ 1000000 by decide), (show (1000000 : Int) ≤ 1000000 by decide)⟩), fun h => by omega⟩
    | succ m ih =>
      intro i I1 hi f1 e6 h
      refine v_sForget_L5 (k := k) ⟨⟨by omega, by omega⟩, fun h => by omega, fun _ => ⟨⟨by omega, by omega⟩, ?_⟩⟩
      rw [show ((i : Int)).toNat = i by omega]
      refine ih (i + 1) _ (by omega) (x_fr_u (k := i) (x_fr_u (k := i) f1 (x_memI (163, 0, 8) (by decide) rfl (Nat.zero_le _) (show i < 8 by omega))) (x_memI (164, 0, 8) (by decide) rfl (Nat.zero_le _) (show i < 8 by omega))) e6 (fun x hx => ?_)
      by_cases c : x = i
      · subst c; exact ⟨(x_u_ne _ _ (by omega)).trans (x_u_same _ _ _ _), x_u_same _ _ _ _⟩
      · exact ⟨(x_u_ne _ _ (by omega)).trans ((x_u_ne _ _ (by omega)).trans (h x (by omega)).1), (x_u_ne _ _ (by omega)).trans ((x_u_ne _ _ (by omega)).trans (h x (by omega)).2)⟩
  exact v_sForget (k := k) (loop 8 0 _ (by omega) (x_fr_u (x_fr_refl _ _) rfl) (x_u_same _ _ _ _) (fun x hx => absurd hx (by omega)))
abbrev q_fOp : List (Nat × Nat × Nat) := [(14, 3, 4), (15, 0, 4), (16, 0, 40), (17, 0, 72), (18, 2, 8), (19, 0, 8), (20, 0, 8), (21, 5, 7), (162, 6, 7), (163, 0, 8), (164, 0, 8), (161, 1, 2), (2, 1, 2)]
theorem s_open {g : x_G} {k : Nat} {Q : x_Q} {I L : Nat → Nat → Int} {lp tp R : Nat} {ru to : Nat → Int} (hW : q_Wo R ru to) (e3 : I 5 3 = (R : Int)) (e6 : ∀ x, x < 4 → I 6 x = ru x) (e7 : ∀ x, x < 5 * R → I 7 x = to x) (h21 : 0 ≤ I 2 1 ∧ I 2 1 ≤ 240) (hq : ∀ I', x_fr q_fOp I I' → q_Oc I' R ru to → q_St I' 18 (q_N0 R ru to) → I' 21 5 = 0 → I' 21 6 = 0 → I' 162 6 = 0 → q_Sc I' (fun _ => 0) (fun _ => 1000000) → I' 161 1 = 0 → I' 2 1 = 0 → Q [x_i (R : Int)] (I', L, lp, tp)) : x_X g (k + 5) 123 [x_r 1] (I, L, lp, tp) Q := by
  have hR : R ≤ 8 := by rcases hW.1 with h | h <;> omega
  refine v_open (k := k + 3) (s_oCopy (k := k) hW e3 e6 e7 (fun I1 f1 o1 => ⟨rfl, ?_⟩))
  refine x_le (show 2 ≤ k + 3 by omega) (s_stBegin (k := 0) hR o1 (fun I2 f2 n2 => ⟨rfl, ?_⟩))
  refine x_le (show 1 ≤ k + 3 by omega) (s_sForget (k := 0) (fun I3 f3 s3 c3 => ⟨rfl, ?_⟩))
  have e21 : I3 2 1 = I 2 1 := (f3 2 1 rfl).trans ((f2 2 1 rfl).trans (f1 2 1 rfl))
  have o2 : q_Oc I2 R ru to := q_Oc_ag hR o1 (x_fr_ag f2 rfl)
  have o3 : q_Oc I3 R ru to := q_Oc_ag hR o2 (fun b x hm => (f3 b x ?_).trans ?_)
  · dsimp only
    rw [e21, o3.1]
    refine ⟨⟨by omega, by omega⟩, fun _ => ?_, fun h => by omega⟩
    have ff : x_fr q_fOp I (x_u (x_u I3 161 1 0) 2 1 0) := x_fr_u (x_fr_u (x_fr_trans (x_fr_mono f1 rfl) (x_fr_trans (x_fr_mono f2 rfl) (x_fr_trans (x_fr_u (x_fr_u (x_fr_refl _ _) rfl) rfl) (x_fr_mono f3 rfl)))) rfl) rfl
    refine hq _ ff (q_Oc_ag hR o3 (fun b x hm => ?_)) (q_St_eq n2 (fun k _ _ => ?_) (fun k _ => ⟨?_, ?_⟩)) ?_ ?_ ?_ (fun r hr => ?_) rfl rfl
    · rw [x_u_ne _ _ (fun h => ?_), x_u_ne _ _ (fun h => ?_)]
      · obtain ⟨rfl, rfl⟩ := h; exact absurd hm (by decide)
      · obtain ⟨rfl, rfl⟩ := h; exact absurd hm (by decide)
    · exact (f3 18 k rfl)
    · exact (f3 19 k rfl)
    · exact (f3 20 k rfl)
    · exact (f3 21 5 rfl)
    · exact (f3 21 6 rfl)
    · exact s3
    · exact c3 r hr
  · cases e : x_mem [(162, 6, 7), (163, 0, 8), (164, 0, 8)] b x with
    | false => rfl
    | true =>
      obtain ⟨t, m1, m2, -⟩ := (x_mem_iff _ b x).mp e
      obtain ⟨t', m1', m2', -⟩ := (x_mem_iff _ b x).mp hm
      have h1 : ∀ t ∈ [(162, 6, 7), (163, 0, 8), (164, 0, 8)], 162 ≤ t.1 := by decide
      have h2 : ∀ t ∈ q_dOc, t.1 ≤ 17 := by decide
      have := h1 t m1
      have := h2 t' m1'
      omega
  · rw [x_u_ne _ _ (fun h => ?_), x_u_ne _ _ (fun h => ?_)]
    · obtain ⟨rfl, rfl⟩ := h; exact absurd hm (by decide)
    · obtain ⟨rfl, rfl⟩ := h; exact absurd hm (by decide)
