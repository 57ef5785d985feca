/-! a new office, law, round: the reference, behind its reading -/
abbrev q_fTo : List (Nat × Nat × Nat) := [(184, 0, 4), (186, 0, 40), (190, 0, 210), (179, 55, 56), (179, 46, 47), (179, 61, 62)]
theorem m_t0 {g : x_G} {k : Nat} {Q : x_Q} {I L : Nat → Nat → Int} {lp tp R : Nat} {ru to : Nat → Int} (hR : R ≤ 8) (e24 : I 179 24 = (R : Int)) (e185 : ∀ x, x < 4 → I 185 x = ru x) (e187 : ∀ x, x < 5 * R → I 187 x = to x) (hq : ∀ I', x_fr q_fTo I I' → (∀ x, x < 4 → I' 184 x = ru x) → (∀ x, x < 5 * R → I' 186 x = to x) → (∀ x, x < 210 → I' 190 x = q_N0 R ru to x) → I' 179 55 = 0 → I' 179 46 = 0 → I' 179 61 = 0 → Q [x_i (R : Int)] (I', L, lp, tp)) : x_S g (k + 2) 223 Q 127 [x_r 179, x_n, x_n, x_i 0] [] (I, L, lp, tp) := by
  have l169 : ∀ (m i : Nat) (I1 : Nat → Nat → Int), i + m = R → x_fr q_fTo I I1 → (∀ x, x < 4 → I1 184 x = ru x) → (∀ x, x < 5 * R → I1 186 x = to x) → (∀ x, x < 210 → I1 190 x = if x < i then to (5 * x + 2) else 0) → x_S g (k + 2) 223 Q 169 [x_r 179, x_n, x_n, x_i (i : Int)] [] (I1, L, lp, tp) := by
    intro m
    induction m with
    | zero =>
      intro i I1 hi f1 a4 a6 a9
      have b24 : I1 179 24 = (R : Int) := (f1 _ _ rfl).trans e24
      refine v_textM_L169 (k := k) ?_
      rw [b24, a4 2 (by omega), a4 0 (by omega), a4 3 (by omega)]
      refine ⟨⟨by omega, by omega⟩, ⟨by omega, by omega⟩, fun _ => ?_, fun h => by omega⟩
      refine hq _ (x_fr_u (x_fr_u (x_fr_u (x_fr_u (x_fr_u (x_fr_u f1 rfl) rfl) rfl) rfl) rfl) rfl) (fun x hx => a4 x hx) (fun x hx => a6 x hx) (fun x hx => ?_) rfl rfl rfl
      rw [x_u_ne _ _ (by omega), x_u_ne _ _ (by omega), x_u_ne _ _ (by omega), x_u_eq, x_u_eq, x_u_eq, a9 x hx]
      unfold q_N0
      by_cases c8 : x < 8
      · rw [if_neg (by omega), if_neg (by omega), if_neg (by omega), if_pos c8]
        by_cases c : x < R
        · rw [if_pos (by omega), if_pos c]
        · rw [if_neg (by omega), if_neg c]
      · rw [if_neg c8]
        by_cases c24 : x = 24
        · rw [if_neg (by omega), if_neg (by omega), if_pos ⟨rfl, c24⟩, if_pos c24]
        · rw [if_neg c24]
          by_cases c25 : x = 25
          · rw [if_neg (by omega), if_pos ⟨rfl, c25⟩, if_pos c25]
          · rw [if_neg c25]
            by_cases c26 : x = 26
            · rw [if_pos ⟨rfl, c26⟩, if_pos c26]
            · rw [if_neg (by omega), if_neg (by omega), if_neg (by omega), if_neg c26, if_neg (by omega)]
    | succ m ih =>
      intro i I1 hi f1 a4 a6 a9
      have b24 : I1 179 24 = (R : Int) := (f1 _ _ rfl).trans e24
      refine v_textM_L169 (k := k) ?_
      rw [b24, show (5 * (i : Int) + 2).toNat = 5 * i + 2 by omega, a6 (5 * i + 2) (by omega), show ((i : Int)).toNat = i by omega]
      refine ⟨⟨by omega, by omega⟩, ⟨by omega, by omega⟩, fun h => by omega, fun _ => ⟨⟨by omega, by omega⟩, ⟨by omega, by omega⟩, ?_⟩⟩
      refine ih (i + 1) _ (by omega) (x_fr_u (k := i) f1 (x_memI (190, 0, 210) (by decide) rfl (Nat.zero_le _) (show i < 210 by omega))) (fun x hx => a4 x hx) (fun x hx => a6 x hx) (fun x hx => ?_)
      by_cases c : x = i
      · subst c; rw [x_u_same, if_pos (by omega)]
      · rw [x_u_ne _ _ (by omega), a9 x hx]
        by_cases c2 : x < i
        · rw [if_pos c2, if_pos (by omega)]
        · rw [if_neg c2, if_neg (by omega)]
  have l157 : ∀ (m i : Nat) (I1 : Nat → Nat → Int), i + m = 210 → x_fr q_fTo I I1 → (∀ x, x < 4 → I1 184 x = ru x) → (∀ x, x < 5 * R → I1 186 x = to x) → (∀ x, x < i → I1 190 x = 0) → x_S g (k + 2) 223 Q 157 [x_r 179, x_n, x_n, x_i (i : Int)] [] (I1, L, lp, tp) := by
    intro m
    induction m with
    | zero =>
      intro i I1 hi f1 a4 a6 a9
      exact v_textM_L157 (k := k) ⟨⟨by omega, by omega⟩, fun _ => l169 R 0 I1 (by omega) f1 a4 a6 (fun x hx => by rw [if_neg (by omega)]; exact a9 x (by omega)), fun h => by omega⟩
    | succ m ih =>
      intro i I1 hi f1 a4 a6 a9
      refine v_textM_L157 (k := k) ⟨⟨by omega, by omega⟩, fun h => by omega, fun _ => ⟨⟨by omega, by omega⟩, ?_⟩⟩
      rw [show ((i : Int)).toNat = i by omega]
      refine ih (i + 1) _ (by omega) (x_fr_u (k := i) f1 (x_memI (190, 0, 210) (by decide) rfl (Nat.zero_le _) (show i < 210 by omega))) (fun x hx => a4 x hx) (fun x hx => a6 x hx) (fun x hx => ?_)
      by_cases c : x = i
      · subst c; exact x_u_same _ _ _ _
      · exact (x_u_ne _ _ (by omega)).trans (a9 x (by omega))
  have l142 : ∀ (m i : Nat) (I1 : Nat → Nat → Int), i + m = 40 → x_fr q_fTo I I1 → (∀ x, x < 4 → I1 184 x = ru x) → (∀ x, x < i → x < 5 * R → I1 186 x = to x) → x_S g (k + 2) 223 Q 142 [x_r 179, x_n, x_n, x_i (i : Int)] [] (I1, L, lp, tp) := by
    intro m
    induction m with
    | zero =>
      intro i I1 hi f1 a4 a6
      exact v_textM_L142 (k := k) ⟨⟨by omega, by omega⟩, fun _ => l157 210 0 I1 (by omega) f1 a4 (fun x hx => a6 x (by omega) hx) (fun x hx => absurd hx (by omega)), fun h => by omega⟩
    | succ m ih =>
      intro i I1 hi f1 a4 a6
      refine v_textM_L142 (k := k) ⟨⟨by omega, by omega⟩, fun h => by omega, fun _ => ⟨⟨by omega, by omega⟩, ?_⟩⟩
      rw [show ((i : Int)).toNat = i by omega]
      refine ih (i + 1) _ (by omega) (x_fr_u (k := i) f1 (x_memI (186, 0, 40) (by decide) rfl (Nat.zero_le _) (show i < 40 by omega))) (fun x hx => a4 x hx) (fun x hx h5 => ?_)
      by_cases c : x = i
      · subst c; rw [x_u_same]; exact (f1 187 x rfl).trans (e187 x h5)
      · exact (x_u_ne _ _ (by omega)).trans (a6 x (by omega) h5)
  have l127 : ∀ (m i : Nat) (I1 : Nat → Nat → Int), i + m = 4 → x_fr q_fTo I I1 → (∀ x, x < i → I1 184 x = ru x) → x_S g (k + 2) 223 Q 127 [x_r 179, x_n, x_n, x_i (i : Int)] [] (I1, L, lp, tp) := by
    intro m
    induction m with
    | zero =>
      intro i I1 hi f1 a4
      exact v_textM_L127 (k := k) ⟨⟨by omega, by omega⟩, fun _ => l142 40 0 I1 (by omega) f1 (fun x hx => a4 x (by omega)) (fun x hx => absurd hx (by omega)), fun h => by omega⟩
    | succ m ih =>
      intro i I1 hi f1 a4
      refine v_textM_L127 (k := k) ⟨⟨by omega, by omega⟩, fun h => by omega, fun _ => ⟨⟨by omega, by omega⟩, ?_⟩⟩
      rw [show ((i : Int)).toNat = i by omega]
      refine ih (i + 1) _ (by omega) (x_fr_u (k := i) f1 (x_memI (184, 0, 4) (by decide) rfl (Nat.zero_le _) (show i < 4 by omega))) (fun x hx => ?_)
      by_cases c : x = i
      · subst c; rw [x_u_same]; exact (f1 185 x rfl).trans (e185 x (by omega))
      · exact (x_u_ne _ _ (by omega)).trans (a4 x (by omega))
  exact l127 4 0 I (by omega) (x_fr_refl _ _) (fun x hx => absurd hx (by omega))
abbrev q_fTl : List (Nat × Nat × Nat) := [(181, 0, 960), (182, 0, 4), (179, 7, 8)]
theorem m_t1 {g : x_G} {k : Nat} {Q : x_Q} {I L : Nat → Nat → Int} {lp tp nl n : Nat} (hn : n ≤ 240) (hl : nl < 4) (e7 : I 179 7 = (nl : Int)) (hb : ∀ x, x < n → -128 ≤ I 180 x ∧ I 180 x ≤ 127) (hq : ∀ I', x_fr q_fTl I I' → (∀ y, y < 240 * nl → I' 181 y = I 181 y) → (∀ x, x < n → I' 181 (240 * nl + x) = I 180 x) → (∀ y, y < nl → I' 182 y = I 182 y) → I' 182 nl = (n : Int) → I' 179 7 = ((nl + 1 : Nat) : Int) → Q [x_i (nl : Int)] (I', L, lp, tp)) : x_S g (k + 2) 223 Q 41 [x_r 179, x_n, x_i (n : Int), x_i 0] [] (I, L, lp, tp) := by
  have loop : ∀ (m i : Nat) (I1 : Nat → Nat → Int), i + m = n → x_fr [(181, 0, 960)] I I1 → (∀ y, y < 240 * nl → I1 181 y = I 181 y) → (∀ x, x < i → I1 181 (240 * nl + x) = I 180 x) → x_S g (k + 2) 223 Q 41 [x_r 179, x_n, x_i (n : Int), x_i (i : Int)] [] (I1, L, lp, tp) := by
    intro m
    induction m with
    | zero =>
      intro i I1 hi f1 a1 a2
      have b7 : I1 179 7 = (nl : Int) := (f1 _ _ rfl).trans e7
      refine v_textM_L41 (k := k) ?_
      rw [b7, show ((nl : Int)).toNat = nl by omega, show (nl : Int) + 1 - 1 = (nl : Int) by omega]
      refine ⟨⟨by omega, by omega⟩, ⟨by omega, by omega⟩, fun _ => ⟨⟨by omega, by omega⟩, ?_⟩, fun h => by omega⟩
      refine hq _ (x_fr_u (x_fr_u (k := nl) (x_fr_mono f1 rfl) (x_memI (182, 0, 4) (by decide) rfl (Nat.zero_le _) (show nl < 4 by omega))) rfl) (fun y hy => (x_u_ne _ _ (by omega)).trans ((x_u_ne _ _ (by omega)).trans (a1 y hy))) (fun x hx => (x_u_ne _ _ (by omega)).trans ((x_u_ne _ _ (by omega)).trans (a2 x (by omega)))) (fun y hy => (x_u_ne _ _ (by omega)).trans ((x_u_ne _ _ (by omega)).trans (f1 182 y rfl))) ((x_u_ne _ _ (by omega)).trans (x_u_same _ _ _ _)) ((x_u_same _ _ _ _).trans (by omega))
    | succ m ih =>
      intro i I1 hi f1 a1 a2
      have b7 : I1 179 7 = (nl : Int) := (f1 _ _ rfl).trans e7
      have b180 : I1 180 i = I 180 i := f1 180 i rfl
      have hbi := hb i (by omega)
      have eb : Int.bmod (I 180 i) 256 = I 180 i := Int.bmod_eq_of_le (by omega) (by omega)
      refine v_textM_L41 (k := k) ?_
      rw [b7, show ((i : Int)).toNat = i by omega, show (240 * (nl : Int) + (i : Int)).toNat = 240 * nl + i by omega, b180, eb]
      refine ⟨⟨by omega, by omega⟩, ⟨by omega, by omega⟩, fun h => by omega, fun _ => ⟨⟨by omega, by omega⟩, ⟨by omega, by omega⟩, ?_⟩⟩
      refine ih (i + 1) _ (by omega) (x_fr_u (k := 240 * nl + i) f1 (x_mem1 ⟨Nat.zero_le _, by omega⟩)) (fun y hy => (x_u_ne _ _ (by omega)).trans (a1 y hy)) (fun x hx => ?_)
      by_cases c : x = i
      · subst c; exact x_u_same _ _ _ _
      · exact (x_u_ne _ _ (by omega)).trans (a2 x (by omega))
  exact loop n 0 I (by omega) (x_fr_refl _ _) (fun _ _ => rfl) (fun x hx => absurd hx (by omega))
abbrev q_fTr : List (Nat × Nat × Nat) := [(188, 0, 32), (189, 0, 4), (179, 26, 27)]
theorem m_t2 {g : x_G} {k : Nat} {Q : x_Q} {I L : Nat → Nat → Int} {lp tp nr : Nat} (hl : nr < 4) (e26 : I 179 26 = (nr : Int)) (hq : ∀ I', x_fr q_fTr I I' → (∀ y, y < 8 * nr → I' 188 y = I 188 y) → (∀ x, x < 8 → I' 188 (8 * nr + x) = I 188 (32 + x)) → (∀ y, y < nr → I' 189 y = I 189 y) → I' 189 nr = I 189 4 → I' 179 26 = ((nr + 1 : Nat) : Int) → Q [x_i (nr : Int)] (I', L, lp, tp)) : x_S g (k + 2) 223 Q 81 [x_r 179, x_n, x_n, x_i 0] [] (I, L, lp, tp) := by
  have loop : ∀ (m i : Nat) (I1 : Nat → Nat → Int), i + m = 8 → x_fr [(188, 0, 32)] I I1 → (∀ y, y < 8 * nr → I1 188 y = I 188 y) → (∀ x, x < i → I1 188 (8 * nr + x) = I 188 (32 + x)) → x_S g (k + 2) 223 Q 81 [x_r 179, x_n, x_n, x_i (i : Int)] [] (I1, L, lp, tp) := by
    intro m
    induction m with
    | zero =>
      intro i I1 hi f1 a1 a2
      have b26 : I1 179 26 = (nr : Int) := (f1 _ _ rfl).trans e26
      have b4 : I1 189 4 = I 189 4 := f1 189 4 rfl
      refine v_textM_L81 (k := k) ?_
      rw [b26, b4, show ((nr : Int)).toNat = nr by omega, show (nr : Int) + 1 - 1 = (nr : Int) by omega]
      refine ⟨⟨by omega, by omega⟩, fun _ => ⟨⟨by omega, by omega⟩, ?_⟩, fun h => by omega⟩
      refine hq _ (x_fr_u (x_fr_u (k := nr) (x_fr_mono f1 rfl) (x_memI (189, 0, 4) (by decide) rfl (Nat.zero_le _) (show nr < 4 by omega))) rfl) (fun y hy => (x_u_ne _ _ (by omega)).trans ((x_u_ne _ _ (by omega)).trans (a1 y hy))) (fun x hx => (x_u_ne _ _ (by omega)).trans ((x_u_ne _ _ (by omega)).trans (a2 x (by omega)))) (fun y hy => (x_u_ne _ _ (by omega)).trans ((x_u_ne _ _ (by omega)).trans (f1 189 y rfl))) ((x_u_ne _ _ (by omega)).trans (x_u_same _ _ _ _)) ((x_u_same _ _ _ _).trans (by omega))
    | succ m ih =>
      intro i I1 hi f1 a1 a2
      have b26 : I1 179 26 = (nr : Int) := (f1 _ _ rfl).trans e26
      have b32 : I1 188 (32 + i) = I 188 (32 + i) := f1 188 (32 + i) (by
        cases e : x_mem [(188, 0, 32)] 188 (32 + i) with
        | false => rfl
        | true =>
          obtain ⟨t, m1, m2, m3, m4⟩ := (x_mem_iff _ 188 (32 + i)).mp e
          rcases List.mem_cons.mp m1 with rfl | m1
          · dsimp only at m4; omega
          · cases m1)
      refine v_textM_L81 (k := k) ?_
      rw [b26, show (32 + (i : Int)).toNat = 32 + i by omega, show (8 * (nr : Int) + (i : Int)).toNat = 8 * nr + i by omega, b32]
      refine ⟨⟨by omega, by omega⟩, fun h => by omega, fun _ => ⟨⟨by omega, by omega⟩, ⟨by omega, by omega⟩, ?_⟩⟩
      refine ih (i + 1) _ (by omega) (x_fr_u (k := 8 * nr + i) f1 (x_mem1 ⟨Nat.zero_le _, by omega⟩)) (fun y hy => (x_u_ne _ _ (by omega)).trans (a1 y hy)) (fun x hx => ?_)
      by_cases c : x = i
      · subst c; exact x_u_same _ _ _ _
      · exact (x_u_ne _ _ (by omega)).trans (a2 x (by omega))
  exact loop 8 0 I (by omega) (x_fr_refl _ _) (fun _ _ => rfl) (fun x hx => absurd hx (by omega))
