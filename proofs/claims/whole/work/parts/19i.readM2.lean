/-! the reference reads an office, a round: from the start -/
abbrev q_fOf : List (Nat × Nat × Nat) := [(179, 8, 12), (179, 25, 26), (179, 27, 28), (185, 0, 4), (187, 0, 40)]
def q_MT (I : Nat → Nat → Int) (b : Nat → Int) (n : Nat) : Prop := I 179 6 = (n : Int) ∧ n ≤ 240 ∧ (∀ j, j < n → I 180 j % 256 = b j ∧ -128 ≤ I 180 j ∧ I 180 j ≤ 127) ∧ (∀ j, j < n → 1 ≤ b j ∧ b j ≤ 255) ∧ q_str I
theorem m_office {g : x_G} {k : Nat} {Q : x_Q} {I L : Nat → Nat → Int} {lp tp : Nat} {b : Nat → Int} {n : Nat} (hT : q_MT I b n) (q1 : ∀ e, q_off b n = .inl e → e ≤ n → ∀ I', x_fr q_fOf I I' → I' 179 11 = (e : Int) → Q [] (I', L, lp, 180)) (q2 : ∀ R ru to, q_off b n = .inr (R, ru, to) → ∀ I', x_fr q_fOf I I' → I' 179 11 = -1 → I' 179 25 = (R : Int) → (∀ x, x < 4 → I' 185 x = ru x) → (∀ x, x < 5 * R → I' 187 x = to x) → Q [] (I', L, lp, 180)) : x_X g (k + 13) 220 [x_r 179] (I, L, lp, tp) Q := by
  obtain ⟨h6, hn, hb, hb2, hs⟩ := hT
  have pre : ∀ (m x : Nat) (I1 : Nat → Nat → Int), x + m = 4 → x_fr q_fOf I I1 → q_OM I1 b n → I1 179 10 = 0 → I1 179 11 = -1 → I1 179 25 = 0 → I1 179 27 = 0 → (∀ y, y < x → I1 185 y = q_us2 115 y) → x_S g (k + 11 + 2) 220 Q 15 [x_r 179, x_i (x : Int)] [] (I1, L, lp, 180) := by
    intro m
    induction m with
    | zero =>
      intro x I1 hx f1 M1 e10 e11 e25 e27 hV
      refine v_mOffice_L15 (k := k + 11) ⟨⟨by omega, by omega⟩, fun _ => ?_, fun h => by omega⟩
      exact m_of_L I1 10 0 0 0 (q_us2 115) (fun _ => 0) I1 M1 e10 (Nat.zero_le _) e11 e25 (by omega) e27 (by omega) (fun _ => rfl) (fun y hy => hV y (by omega)) (fun y hy => absurd hy (by omega)) q_us_vk.1 (fun r hr => absurd hr (by omega)) (by omega) (x_fr_refl _ _) (fun e he hen I' f' => q1 e he hen I' (x_fr_trans f1 (x_fr_mono f' rfl))) (fun R ru to he I' f' => q2 R ru to he I' (x_fr_trans f1 (x_fr_mono f' rfl)))
    | succ m ih =>
      intro x I1 hx f1 M1 e10 e11 e25 e27 hV
      refine v_mOffice_L15 (k := k + 11) ⟨⟨by omega, by omega⟩, fun h => by omega, fun _ => ?_⟩
      refine x_le (show 1 ≤ k + 11 by omega) (m_usual (k := 0) (Or.inl rfl) (show x < 5 by omega) ⟨_, rfl, ⟨by omega, by omega⟩, ?_⟩)
      rw [show ((x : Int)).toNat = x by omega]
      have fx : x_mem q_fOf 185 x = true := x_memI (185, 0, 4) (by decide) rfl (Nat.zero_le _) (show x < 4 by omega)
      have fx2 : x_mem q_fOm 185 x = true := x_memI (185, 0, 4) (by decide) rfl (Nat.zero_le _) (show x < 4 by omega)
      refine ih (x + 1) _ (by omega) (x_fr_u (k := x) f1 fx) (q_OM_fr M1 (x_fr_u (k := x) (x_fr_refl _ _) fx2)) e10 e11 e25 e27 (fun y hy => ?_)
      by_cases c : y = x
      · subst c; exact x_u_same _ _ _ _
      · exact (x_u_ne _ _ (by omega)).trans (hV y (by omega))
  refine v_mOffice (k := k + 11) ?_
  have f0 : x_fr q_fOf I (x_u (x_u (x_u (x_u (x_u (x_u I 179 8 0) 179 9 (I 179 6)) 179 10 0) 179 11 (-1)) 179 25 0) 179 27 0) := x_fr_u (x_fr_u (x_fr_u (x_fr_u (x_fr_u (x_fr_u (x_fr_refl _ _) rfl) rfl) rfl) rfl) rfl) rfl
  exact pre 4 0 _ (by omega) f0 ⟨rfl, h6, hn, fun j hj => by rw [f0 180 j rfl]; exact hb j hj, hb2, q_str_fr (S := []) hs (x_fr_hi f0 (by decide))⟩ rfl rfl rfl rfl (fun y hy => absurd hy (by omega))
abbrev q_fRm : List (Nat × Nat × Nat) := [(179, 8, 12), (188, 32, 40), (189, 4, 5)]
theorem q_OM_eq {I I' : Nat → Nat → Int} {b : Nat → Int} {n : Nat} (h : q_OM I b n) (e8 : I' 179 8 = I 179 8) (e9 : I' 179 9 = I 179 9) (e180 : ∀ j, I' 180 j = I 180 j) (hi : ∀ a k, 5000 ≤ a → I' a k = I a k) : q_OM I' b n := by
  obtain ⟨h1, h2, h3, h4, h5, h6⟩ := h
  exact ⟨e8.trans h1, e9.trans h2, h3, fun j hj => by rw [e180 j]; exact h4 j hj, h5, q_str_fr (S := []) h6 hi⟩
theorem m_round {g : x_G} {k : Nat} {Q : x_Q} {I L : Nat → Nat → Int} {lp tp : Nat} {b : Nat → Int} {n : Nat} (hT : q_MT I b n) (q1 : ∀ e, q_rnd b n = .inl e → e ≤ n → ∀ I', x_fr q_fRm I I' → I' 179 11 = (e : Int) → Q [] (I', L, lp, 180)) (q2 : ∀ m V, q_rnd b n = .inr (m, V) → ∀ I', x_fr q_fRm I I' → I' 179 11 = -1 → I' 189 4 = (m : Int) → (∀ x, x < m → I' 188 (32 + x) = V x) → Q [] (I', L, lp, 180)) : x_X g (k + 3) 221 [x_r 179] (I, L, lp, tp) Q := by
  obtain ⟨h6, hn, hb, hb2, hs⟩ := hT
  have main : ∀ (f a t m : Nat) (V : Nat → Int) (I1 : Nat → Nat → Int), a ≤ n → n + 1 ≤ q_s b n a + f → t < 256 → q_c8 t = m → q_OM I1 b n → I1 179 10 = (a : Int) → I1 179 11 = -1 → x_fr q_fRm I I1 → (∀ x, x < m → I1 188 (32 + x) = V x) → (∀ e, q_rdn b n f (q_s b n a) t m V = .inl e → e ≤ n → ∀ I', x_fr q_fRm I I' → I' 179 11 = (e : Int) → Q [] (I', L, lp, 180)) → (∀ m' V', q_rdn b n f (q_s b n a) t m V = .inr (m', V') → ∀ I', x_fr q_fRm I I' → I' 179 11 = -1 → I' 189 4 = (m' : Int) → (∀ x, x < m' → I' 188 (32 + x) = V' x) → Q [] (I', L, lp, 180)) → x_S g (k + 1 + 2) 221 Q 11 [x_r 179, x_i (m : Int), x_i (t : Int), x_n] [] (I1, L, lp, 180) := by
    intro f
    induction f with
    | zero =>
      intro a t m V I1 ha hf
      have := q_s_le (b := b) ha
      omega
    | succ f ih =>
      intro a t m V I1 ha hf ht hm M1 e10 e11 f1 hV a1 a2
      obtain ⟨l0, lA, lV, li, lt⟩ := q_OL M1 e10 ha
      rw [q_rdn_s] at a1 a2
      have m8 := (q_c8_256 t ht).1
      generalize hi : q_s b n a = i at *
      have M2 : ∀ z : Int, q_OM (x_u I1 179 10 z) b n := fun z => q_OM_eq M1 rfl rfl (fun _ => rfl) (fun a k h => x_u_ne _ _ (by omega))
      have dD := q_OD (M2 (i : Int)) (x_u_same I1 179 10 (i : Int))
      have fail : (∀ e, Sum.inl i = (Sum.inl e : Nat ⊕ (Nat × (Nat → Int))) → e ≤ n → ∀ I', x_fr q_fRm I I' → I' 179 11 = (e : Int) → Q [] (I', L, lp, 180)) → x_X g (k + 1) 195 [x_r 179] ((x_u I1 179 10 (i : Int)), L, lp, 180) (fun rv w5 => ∃ z4, rv = [x_i z4] ∧ Q [] w5) := fun h => x_le (show 1 ≤ k + 1 by omega) (s_failsE (k := 0) e11 ⟨_, rfl, h i rfl li _ (x_fr_u (x_fr_u f1 rfl) rfl) (by rw [x_u_same, x_u_same])⟩)
      have digit : i < n → (q_isD (x_u I1 179 10 (i : Int)) 180 → (x_rg (q_tk b n i - 48)) ∧ ((8 ≤ q_tk b n i - 48 → x_X g (k + 1) 195 [x_r 179] ((x_u I1 179 10 (i : Int)), L, lp, 180) (fun rv w5 => ∃ z4, rv = [x_i z4] ∧ Q [] w5)) ∧ (q_tk b n i - 48 < 8 → (0 ≤ (t : Int) ∧ (t : Int) < 2147483648) ∧ ((0 ≤ q_tk b n i - 48 ∧ q_tk b n i - 48 < 31) ∧ (((((t : Int)).toNat.testBit (q_tk b n i - 48).toNat = true) → x_X g (k + 1) 195 [x_r 179] ((x_u I1 179 10 (i : Int)), L, lp, 180) (fun rv w9 => ∃ z8, rv = [x_i z8] ∧ Q [] w9)) ∧ (¬ (((t : Int)).toNat.testBit (q_tk b n i - 48).toNat = true) → (0 ≤ (32 + (m : Int)) ∧ (32 + (m : Int)) < 40) ∧ (x_S g (k + 1 + 2) 221 Q 11 [x_r 179, x_i ((m : Int) + 1), x_i (x_or (t : Int) (x_shl 1 (q_tk b n i - 48))), x_n] [] ((x_u (x_u (x_u I1 179 10 (i : Int)) 188 (((32 + (m : Int))).toNat) (q_tk b n i - 48)) 179 10 ((i : Int) + 1)), L, lp, 180))))))))  ∧ (¬ q_isD (x_u I1 179 10 (i : Int)) 180 → x_X g (k + 1) 195 [x_r 179] ((x_u I1 179 10 (i : Int)), L, lp, 180) (fun rv w12 => ∃ z11, rv = [x_i z11] ∧ Q [] w12)) := fun hin => by
        have etk : q_tk b n i = b i := if_pos hin
        have hbi := hb2 i hin
        rw [etk]
        rw [if_neg (by omega)] at a1 a2
        refine ⟨fun c => ?_, fun c => ?_⟩
        · have c' := dD.mp c
          refine ⟨⟨by omega, by omega⟩, fun c1 => ?_, fun c1 => ⟨⟨by omega, by omega⟩, ⟨by omega, by omega⟩, fun c2 => ?_, fun c2 => ?_⟩⟩
          · rw [if_pos (Or.inr (Or.inl c1))] at a1
            exact fail a1
          · have c2' : t.testBit (b i - 48).toNat = true := c2
            rw [if_pos (Or.inr (Or.inr c2'))] at a1
            exact fail a1
          · have c2' : ¬ t.testBit (b i - 48).toNat = true := c2
            rw [if_neg (fun h => h.elim (fun h => by omega) (fun h => h.elim (fun h => by omega) c2'))] at a1 a2
            obtain ⟨d, hd⟩ := Int.eq_ofNat_of_zero_le (show 0 ≤ b i - 48 by omega)
            rw [hd] at a1 a2 c2' ⊢
            rw [show ((d : Int)).toNat = d by omega] at a1 a2 c2'
            obtain ⟨k1, k2, k3⟩ := (q_c8_256 t ht).2 d (by omega) (by cases e : t.testBit d with
              | false => rfl
              | true => exact absurd e c2')
            obtain ⟨o1, o2⟩ := q_or1 t d ht (by omega)
            rw [o1, show (32 + (m : Int)).toNat = 32 + m by omega]
            have hs1 := q_s_ge b n (i + 1)
            have ei : (i : Int) + 1 = ((i + 1 : Nat) : Int) := by omega
            refine ⟨⟨by omega, by omega⟩, ih (i + 1) (t ||| 2 ^ d) (m + 1) (q_up V m (d : Int)) _ (by omega) (by omega) k2 (by omega) (q_OM_eq M1 rfl rfl (fun _ => rfl) (fun a k h => by rw [x_u_ne _ _ (by omega), x_u_ne _ _ (by omega), x_u_ne _ _ (by omega)])) ((x_u_same _ _ _ _).trans ei) e11 (x_fr_u (x_fr_u (k := 32 + m) (x_fr_u f1 rfl) (x_memI (188, 32, 40) (by decide) rfl (show 32 ≤ 32 + m by omega) (show 32 + m < 40 by omega))) rfl) (fun x hx => ?_) a1 a2⟩
            rw [x_u_ne _ _ (by omega)]
            by_cases c : x = m
            · subst c; rw [x_u_same]; exact q_up_at.symm
            · rw [x_u_ne _ _ (by omega), x_u_ne _ _ (by omega), hV x (by omega)]; exact (q_up_ne c).symm
        · have c' : ¬ (i < n ∧ 48 ≤ b i ∧ b i ≤ 57) := fun h => c (dD.mpr h)
          rw [if_pos (show b i - 48 < 0 ∨ 8 ≤ b i - 48 ∨ t.testBit (b i - 48).toNat = true by
            by_cases h : b i - 48 < 0
            · exact Or.inl h
            · exact Or.inr (Or.inl (by omega)))] at a1
          exact fail a1
      have l1 := (q_OL (M2 (i : Int)) (x_u_same _ _ _ _) li).1
      refine v_mRound_L11 (k := k + 1) ?_
      rw [lA, lV]
      refine ⟨⟨by omega, by omega⟩, fun c => ⟨l0, l1, ?_⟩, fun c => ⟨l0, ⟨by omega, by omega⟩, fun c1 => ?_, fun c1 => ⟨l1, ?_⟩⟩⟩
      · by_cases hin : i < n
        · exact digit hin
        · refine ⟨fun c1 => absurd (dD.mp c1).1 hin, fun c1 => ?_⟩
          rw [if_pos (by omega), if_pos (by omega), show n = i by omega] at a1
          rw [show n = i by omega] at fail
          exact fail a1
      · have hin : ¬ i < n := fun h => by
          have : q_tk b n i = b i := if_pos h
          have := hb2 i h
          omega
        rw [if_pos (by omega), if_neg (by omega)] at a2
        exact a2 _ _ rfl _ (x_fr_u (x_fr_u f1 rfl) rfl) e11 rfl (fun x hx => hV x hx)
      · have hin : i < n := by
          by_cases h : i < n
          · exact h
          · exact absurd (show q_tk b n i = -1 from if_neg h) c1
        exact digit hin
  have f0 : x_fr q_fRm I (x_u (x_u (x_u (x_u I 179 8 0) 179 9 (I 179 6)) 179 10 0) 179 11 (-1)) := x_fr_u (x_fr_u (x_fr_u (x_fr_u (x_fr_refl _ _) rfl) rfl) rfl) rfl
  refine v_mRound (k := k + 1) ?_
  exact main (n + 1) 0 0 0 (fun _ => -1) _ (Nat.zero_le _) (by omega) (by decide) (by decide) ⟨rfl, h6, hn, fun j hj => by rw [f0 180 j rfl]; exact hb j hj, hb2, q_str_fr (S := []) hs (x_fr_hi f0 (by decide))⟩ rfl rfl f0 (fun x hx => absurd hx (by omega)) q1 q2
