/-! the past, by the reference; image and log -/
def q_Am (I : Nat → Nat → Int) (H : Nat → Nat → Int) (na : Nat) : Prop := I 179 46 = (na : Int) ∧ na ≤ 40 ∧ ∀ j, j < na → ∀ k, k < 210 → I 196 (210 * j + k) = H j k
abbrev q_fP : List (Nat × Nat × Nat) := [(196, 0, 8400), (179, 46, 47)]
theorem m_remember {g : x_G} {k : Nat} {Q : x_Q} {I L : Nat → Nat → Int} {lp tp na : Nat} {H : Nat → Nat → Int} (hA : q_Am I H na) (hq : ∀ I', x_fr q_fP I I' → q_Am I' (q_h1 H na (I 190)) (min 40 (na + 1)) → Q [] (I', L, lp, tp)) : x_X g (k + 1) 242 [x_r 179] (I, L, lp, tp) Q := by
  obtain ⟨e46, hna, hH⟩ := hA
  -- a row is laid at place n
  have lay : ∀ (n : Nat) (I1 : Nat → Nat → Int), n < 40 → I1 179 46 = (n : Int) → x_fr q_fP I I1 → (∀ I', x_fr q_fP I I' → I' 179 46 = ((n + 1 : Nat) : Int) → (∀ x, I' 196 x = if 210 * n ≤ x ∧ x < 210 * n + 210 then I 190 (x - 210 * n) else I1 196 x) → Q [] (I', L, lp, tp)) → x_S g (k + 1) 242 Q 29 [x_r 179, x_i 0] [] (I1, L, lp, tp) := by
    intro n I1 hn h46 f1 hq
    have loop : ∀ (m i : Nat) (J : Nat → Nat → Int), i + m = 210 → x_fr q_fP I J → J 179 46 = (n : Int) → (∀ x, J 196 x = if 210 * n ≤ x ∧ x < 210 * n + i then I 190 (x - 210 * n) else I1 196 x) → x_S g (k + 1) 242 Q 29 [x_r 179, x_i (i : Int)] [] (J, L, lp, tp) := by
      intro m
      induction m with
      | zero =>
        intro i J hm fJ j46 hJ
        obtain rfl : i = 210 := by omega
        refine v_rememberM_L29 ?_
        rw [j46]
        exact ⟨⟨by omega, by omega⟩, fun _ => hq _ (x_fr_u fJ rfl) rfl (fun x => hJ x), fun q => by omega⟩
      | succ m ih =>
        intro i J hm fJ j46 hJ
        refine v_rememberM_L29 ?_
        rw [j46, show ((i : Int)).toNat = i by omega, show (210 * (n : Int) + (i : Int)).toNat = 210 * n + i by omega, fJ 190 i rfl]
        refine ⟨⟨by omega, by omega⟩, fun q => by omega, fun _ => ⟨⟨by omega, by omega⟩, ⟨by omega, by omega⟩, ih (i + 1) _ (by omega) (x_fr_u (k := 210 * n + i) fJ (x_mem1 ⟨by omega, by omega⟩)) ((x_u_ne _ _ (by omega)).trans j46) (fun x => ?_)⟩⟩
        rw [x_u_eq]
        by_cases e : x = 210 * n + i
        · rw [if_pos ⟨rfl, e⟩, if_pos (by omega), e, show 210 * n + i - 210 * n = i by omega]
        · rw [if_neg (fun h => e h.2), hJ x]
          by_cases c : 210 * n ≤ x ∧ x < 210 * n + i
          · rw [if_pos c, if_pos (by omega)]
          · rw [if_neg c, if_neg (by omega)]
    exact loop 210 0 I1 (by decide) f1 h46 (fun x => by rw [if_neg (by omega)])
  refine v_rememberM ?_
  rw [e46]
  refine ⟨⟨by omega, by omega⟩, fun c => ?_, fun c => ?_⟩
  · refine lay na I (by omega) e46 (x_fr_refl _ _) (fun I' f' h46 h196 => hq I' f' ⟨by rw [h46]; omega, by omega, fun j hj x hx => ?_⟩)
    rw [h196]
    unfold q_h1
    by_cases e : j = na
    · rw [if_pos (by omega), if_pos (by omega), show 210 * j + x - 210 * na = x by omega]
    · rw [if_neg (by omega), if_neg (by omega), if_neg (by omega)]
      exact hH j (by omega) x hx
  · have shift : ∀ (m i : Nat) (J : Nat → Nat → Int), i + m = 8190 → x_fr q_fP I J → J 179 46 = (na : Int) → (∀ x, J 196 x = if x < i then I 196 (x + 210) else I 196 x) → x_S g (k + 1) 242 Q 6 [x_r 179, x_i (i : Int)] [] (J, L, lp, tp) := by
      intro m
      induction m with
      | zero =>
        intro i J hm fJ j46 hJ
        refine v_rememberM_L6 ?_
        rw [j46]
        refine ⟨⟨by omega, by omega⟩, fun _ => ?_, fun q => by omega⟩
        refine lay 39 _ (by decide) (by rw [x_u_same]; omega) (x_fr_u fJ rfl) (fun I' f' h46 h196 => hq I' f' ⟨by rw [h46]; omega, by omega, fun j hj x hx => ?_⟩)
        rw [h196]
        unfold q_h1
        by_cases e : j = 39
        · rw [if_pos (by omega), if_pos (by omega), show 210 * j + x - 210 * 39 = x by omega]
        · rw [if_neg (by omega), if_neg (by omega), if_pos (by omega), x_u_ne _ _ (by omega), hJ, if_pos (by omega), show 210 * j + x + 210 = 210 * (j + 1) + x by omega]
          exact hH (j + 1) (by omega) x hx
      | succ m ih =>
        intro i J hm fJ j46 hJ
        refine v_rememberM_L6 ?_
        rw [show ((i : Int)).toNat = i by omega, show ((i : Int) + 210).toNat = i + 210 by omega]
        refine ⟨⟨by omega, by omega⟩, fun q => by omega, fun _ => ⟨⟨by omega, by omega⟩, ⟨by omega, by omega⟩, ih (i + 1) _ (by omega) (x_fr_u (k := i) fJ (x_mem1 ⟨by omega, by omega⟩)) ((x_u_ne _ _ (by omega)).trans j46) (fun x => ?_)⟩⟩
        rw [x_u_eq]
        by_cases e : x = i
        · rw [if_pos ⟨rfl, e⟩, if_pos (by omega), e, hJ, if_neg (by omega)]
        · rw [if_neg (fun h => e h.2), hJ x]
          by_cases c : x < i
          · rw [if_pos c, if_pos (by omega)]
          · rw [if_neg c, if_neg (by omega)]
    exact shift 8190 0 I (by decide) (x_fr_refl _ _) e46 (fun x => by rw [if_neg (by omega)])
abbrev q_fQ : List (Nat × Nat × Nat) := [(190, 0, 210), (179, 0, 1), (179, 46, 47)]
theorem m_undo {g : x_G} {k : Nat} {Q : x_Q} {I L : Nat → Nat → Int} {lp tp na : Nat} {H : Nat → Nat → Int} (hA : q_Am I H na) (q0 : na = 0 → Q [x_i (-1)] (x_u I 179 0 0, L, lp, tp)) (q1 : ∀ m, na = m + 1 → ∀ I', x_fr q_fQ I I' → (∀ x, x < 210 → I' 190 x = H m x) → q_Am I' H m → Q [x_i (m : Int)] (I', L, lp, tp)) : x_X g (k + 1) 250 [x_r 179] (I, L, lp, tp) Q := by
  obtain ⟨e46, hna, hH⟩ := hA
  refine v_undoM ?_
  rw [e46]
  refine ⟨⟨by omega, by omega⟩, fun c => ?_, fun c => q0 (by omega)⟩
  obtain ⟨m, rfl⟩ : ∃ m, na = m + 1 := ⟨na - 1, by omega⟩
  have loop : ∀ (n i : Nat) (J : Nat → Nat → Int), i + n = 210 → x_fr q_fQ I J → J 179 46 = (m : Int) → (∀ x, x < i → J 190 x = H m x) → x_S g (k + 1) 250 Q 16 [x_r 179, x_i (i : Int)] [] (J, L, lp, tp) := by
    intro n
    induction n with
    | zero =>
      intro i J hm fJ j46 hJ
      refine v_undoM_L16 ?_
      rw [j46]
      exact ⟨⟨by omega, by omega⟩, fun _ => q1 m rfl J fJ (fun x hx => hJ x (by omega)) ⟨j46, by omega, fun j hj x hx => (fJ _ _ rfl).trans (hH j (by omega) x hx)⟩, fun q => by omega⟩
    | succ n ih =>
      intro i J hm fJ j46 hJ
      refine v_undoM_L16 ?_
      rw [j46, show ((i : Int)).toNat = i by omega, show (210 * (m : Int) + (i : Int)).toNat = 210 * m + i by omega, fJ 196 (210 * m + i) rfl, hH m (by omega) i (by omega)]
      refine ⟨⟨by omega, by omega⟩, fun q => by omega, fun _ => ⟨⟨by omega, by omega⟩, ⟨by omega, by omega⟩, ih (i + 1) _ (by omega) (x_fr_u (k := i) fJ (x_mem1 ⟨by omega, by omega⟩)) ((x_u_ne _ _ (by omega)).trans j46) (fun x hx => ?_)⟩⟩
      rw [x_u_eq]
      by_cases e : x = i
      · rw [if_pos ⟨rfl, e⟩, e]
      · rw [if_neg (fun h => e h.2)]; exact hJ x (by omega)
  exact loop 210 0 _ (by decide) (x_fr_u (x_fr_u (x_fr_refl _ _) rfl) rfl) (by rw [x_u_same]; omega) (fun x hx => by omega)
abbrev q_fIm : List (Nat × Nat × Nat) := [(202, 0, 210), (179, 0, 1), (179, 61, 62)]
theorem m_image {g : x_G} {k : Nat} {Q : x_Q} {I L : Nat → Nat → Int} {lp tp R : Nat} (hR : R ≤ 8) (e24 : I 179 24 = (R : Int)) (q0 : R = 0 → Q [x_i (-1)] (x_u I 179 0 0, L, lp, tp)) (q1 : ¬ R = 0 → ∀ I', x_fr q_fIm I I' → (∀ x, x < 210 → I' 202 x = I 190 x) → I' 179 61 = 1 → Q [x_i (I 190 28)] (I', L, lp, tp)) : x_X g (k + 1) 283 [x_r 179] (I, L, lp, tp) Q := by
  refine v_imageM ?_
  rw [e24]
  refine ⟨⟨by omega, by omega⟩, fun c => ?_, fun c => q0 (by omega)⟩
  have loop : ∀ (n i : Nat) (J : Nat → Nat → Int), i + n = 210 → x_fr q_fIm I J → (∀ x, x < i → J 202 x = I 190 x) → x_S g (k + 1) 283 Q 10 [x_r 179, x_i (i : Int)] [] (J, L, lp, tp) := by
    intro n
    induction n with
    | zero =>
      intro i J hm fJ hJ
      refine v_imageM_L10 ?_
      rw [fJ 190 28 rfl]
      exact ⟨⟨by omega, by omega⟩, fun _ => q1 (by omega) _ (x_fr_u fJ rfl) (fun x hx => hJ x (by omega)) rfl, fun q => by omega⟩
    | succ n ih =>
      intro i J hm fJ hJ
      refine v_imageM_L10 ?_
      rw [show ((i : Int)).toNat = i by omega, fJ 190 i rfl]
      refine ⟨⟨by omega, by omega⟩, fun q => by omega, fun _ => ⟨⟨by omega, by omega⟩, ih (i + 1) _ (by omega) (x_fr_u (k := i) fJ (x_mem1 ⟨by omega, by omega⟩)) (fun x hx => ?_)⟩⟩
      rw [x_u_eq]
      by_cases e : x = i
      · rw [if_pos ⟨rfl, e⟩, e]
      · rw [if_neg (fun h => e h.2)]; exact hJ x (by omega)
  exact loop 210 0 _ (by decide) (x_fr_u (x_fr_refl _ _) rfl) (fun x hx => by omega)
theorem m_back {g : x_G} {k : Nat} {Q : x_Q} {I L : Nat → Nat → Int} {lp tp : Nat} (hb : I 179 61 = 0 ∨ I 179 61 = 1) (q0 : I 179 61 = 0 → Q [x_i (-1)] (x_u I 179 0 0, L, lp, tp)) (q1 : I 179 61 = 1 → ∀ I', x_fr q_fQ I I' → (∀ x, x < 210 → I' 190 x = I 202 x) → I' 179 46 = 0 → Q [x_i (I 202 28)] (I', L, lp, tp)) : x_X g (k + 1) 284 [x_r 179] (I, L, lp, tp) Q := by
  refine v_backM ?_
  refine ⟨⟨by omega, by omega⟩, fun c => ?_, fun c => q0 c⟩
  have loop : ∀ (n i : Nat) (J : Nat → Nat → Int), i + n = 210 → x_fr q_fQ I J → (∀ x, x < i → J 190 x = I 202 x) → x_S g (k + 1) 284 Q 10 [x_r 179, x_i (i : Int)] [] (J, L, lp, tp) := by
    intro n
    induction n with
    | zero =>
      intro i J hm fJ hJ
      refine v_backM_L10 ?_
      rw [hJ 28 (by omega)]
      exact ⟨⟨by omega, by omega⟩, fun _ => q1 (by omega) _ (x_fr_u fJ rfl) (fun x hx => hJ x (by omega)) rfl, fun q => by omega⟩
    | succ n ih =>
      intro i J hm fJ hJ
      refine v_backM_L10 ?_
      rw [show ((i : Int)).toNat = i by omega, fJ 202 i rfl]
      refine ⟨⟨by omega, by omega⟩, fun q => by omega, fun _ => ⟨⟨by omega, by omega⟩, ih (i + 1) _ (by omega) (x_fr_u (k := i) fJ (x_mem1 ⟨by omega, by omega⟩)) (fun x hx => ?_)⟩⟩
      rw [x_u_eq]
      by_cases e : x = i
      · rw [if_pos ⟨rfl, e⟩, e]
      · rw [if_neg (fun h => e h.2)]; exact hJ x (by omega)
  exact loop 210 0 _ (by decide) (x_fr_u (x_fr_refl _ _) rfl) (fun x hx => by omega)
