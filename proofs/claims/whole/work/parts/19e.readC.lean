/-! the class reads an office, a round -/
theorem s_oRead_L {g : x_G} {k : Nat} {Q : x_Q} {L : Nat → Nat → Int} {lp tp : Nat} {b : Nat → Int} {n : Nat} (I0 : Nat → Nat → Int) : ∀ (f i rl R : Nat) (ru to : Nat → Int) (I : Nat → Nat → Int), q_OT I b n i → I 5 3 = (R : Int) → R ≤ 8 → rl ≤ 1 → (∀ x, x < 4 → I 6 x = ru x) → (∀ x, x < 5 * R → I 7 x = to x) → q_vk 115 4 ru → q_tvk R to → rl + R + f = 10 → x_fr q_fO I0 I → (∀ e, q_cls b n f i rl R ru to = .inl e → ∀ I', x_fr q_fO I0 I' → Q [x_i (e : Int)] (I', L, lp, tp)) → (∀ R' ru' to', q_cls b n f i rl R ru to = .inr (R', ru', to') → ∀ I', x_fr q_fO I0 I' → I' 5 3 = (R' : Int) → (∀ x, x < 4 → I' 6 x = ru' x) → (∀ x, x < 5 * R' → I' 7 x = to' x) → Q [x_i (-1)] (I', L, lp, tp)) → x_S g (k + 11 + 2) 57 Q 13 [x_r 4, x_i (rl : Int), x_i ((rl + R : Nat) : Int), x_n, x_n] [] (I, L, lp, tp)
  | 0, i, rl, R, ru, to, I => fun _ _ hR hrl _ _ _ _ hs => by omega
  | f + 1, i, rl, R, ru, to, I => fun hT e3 hR hrl e6 e7 hv ht hs hf q1 q2 => by
    have t0 := q_OT_0 hT
    have ea := q_OT_at hT i
    have h42 := hT.2.2.2.2.2.2.1
    have h3 := hT.2.2.1
    have h8 := hT.2.2.2.2.2.2.2
    have htk : -1 ≤ q_tk b n i ∧ q_tk b n i ≤ 255 := by
      unfold q_tk
      by_cases c : i < n
      · rw [if_pos c]; have := hT.2.2.2.1 i c; omega
      · rw [if_neg c]; omega
    rw [q_cls_s] at q1 q2
    have aft : ∀ (I1 : Nat → Nat → Int) (j rl1 R1 : Nat) (ru1 to1 : Nat → Int) (ov cv : Int), ov = (rl1 : Int) → cv = ((rl1 + R1 : Nat) : Int) → q_OT I1 b n j → I1 5 3 = (R1 : Int) → R1 ≤ 8 → rl1 ≤ 1 → (∀ x, x < 4 → I1 6 x = ru1 x) → (∀ x, x < 5 * R1 → I1 7 x = to1 x) → q_vk 115 4 ru1 → q_tvk R1 to1 → rl1 + R1 + f = 10 → x_fr q_fO I0 I1 → (∀ e, (if n ≤ j then q_fin n R1 ru1 to1 else q_cls b n f (q_s b n (j + 1)) rl1 R1 ru1 to1) = .inl e → ∀ I', x_fr q_fO I0 I' → Q [x_i (e : Int)] (I', L, lp, tp)) → (∀ R' ru' to', (if n ≤ j then q_fin n R1 ru1 to1 else q_cls b n f (q_s b n (j + 1)) rl1 R1 ru1 to1) = .inr (R', ru', to') → ∀ I', x_fr q_fO I0 I' → I' 5 3 = (R' : Int) → (∀ x, x < 4 → I' 6 x = ru' x) → (∀ x, x < 5 * R' → I' 7 x = to' x) → Q [x_i (-1)] (I', L, lp, tp)) → x_rg (I1 4 2) ∧ (x_rg (I1 2 1) ∧ ((I1 4 2 < I1 2 1 → q_tk0 I1 ∧ ((0 ≤ I1 4 2 + 1 ∧ I1 4 2 + 1 ≤ 1000) ∧ x_S g (k + 11 + 2) 57 Q 13 [x_r 4, x_i ov, x_i cv, x_n, x_n] [] (x_u I1 4 2 (q_pb I1 (I1 4 2 + 1)), L, lp, tp))) ∧ (I1 2 1 ≤ I1 4 2 → x_rg (I1 5 3) ∧ ((I1 5 3 < 2 → Q [x_i (I1 2 1)] (I1, L, lp, tp)) ∧ (2 ≤ I1 5 3 → x_X g (k + 11) 50 [x_r 5] (I1, L, lp, tp) (fun rv w17 => ∃ z16, rv = [x_i z16] ∧ (x_rg z16) ∧ ((z16 = 0 → Q [x_i (-1)] w17) ∧ (¬ z16 = 0 → Q [x_i (w17.1 2 1)] w17)))))))) := fun I1 j rl1 R1 ru1 to1 ov cv eo ec T1 r3 rR rl' r6 r7 rv rt rs f1 a1 a2 => by
      have s0 := q_OT_0 T1
      have s42 := T1.2.2.2.2.2.2.1
      have s8 := T1.2.2.2.2.2.2.2
      have s21 := T1.2.1
      have sp := q_OT_pb1 T1 j
      rw [s42, s21, sp, r3, eo, ec]
      refine ⟨⟨by omega, by omega⟩, ⟨by omega, by omega⟩, fun c => ⟨s0, ⟨by omega, by omega⟩, ?_⟩, fun c => ⟨⟨by omega, by omega⟩, fun c1 => ?_, fun c1 => ?_⟩⟩
      · rw [if_neg (by omega)] at a1 a2
        exact s_oRead_L I0 f (q_s b n (j + 1)) rl1 R1 ru1 to1 _ (q_OT_mv T1 (q_s_le (show j + 1 ≤ n by omega))) r3 rR rl' r6 r7 rv rt rs (x_fr_u f1 rfl) a1 a2
      · rw [if_pos (by omega)] at a1
        exact a1 n (by unfold q_fin; rw [if_pos (Or.inl (by omega))]) I1 f1
      · rw [if_pos (by omega)] at a1 a2
        refine x_le (show 2 ≤ k + 11 by omega) (s_oTwo (k := 0) rR r3 r7 rt ⟨_, rfl, ?_⟩)
        by_cases c2 : q_tw1 to1 R1 0 = true
        · rw [if_pos c2]
          refine ⟨by decide, fun h => absurd h (by decide), fun _ => ?_⟩
          dsimp only
          rw [s21]
          exact a1 n (by unfold q_fin; rw [if_pos (Or.inr c2)]) I1 f1
        · rw [if_neg c2]
          refine ⟨by decide, fun _ => ?_, fun h => absurd rfl h⟩
          exact a2 R1 ru1 to1 (by unfold q_fin; rw [if_neg (fun h => h.elim (fun h => by omega) c2)]) I1 f1 r3 r6 r7
    have rest : ¬ (q_tk b n i = 115 ∧ rl = 0) → ¬ (q_tk b n i = 100 ∧ R < 8) → Q [x_i (i : Int)] (I, L, lp, tp) := fun c1 c2 => by
      rw [if_neg c1, if_neg c2] at q1
      exact q1 i rfl I hf
    have o0 : x_or (rl : Int) 0 = (rl : Int) := q_or0 rl (by omega)
    have room : ¬ (q_tk b n i = 115 ∧ rl = 0) → q_tk b n i = 100 → R < 8 → x_X g (k + 11) 59 [x_r 4] (I, L, lp, tp) (fun rv w11 => ∃ z10, rv = [x_i z10] ∧ (x_rg z10) ∧ ((¬ z10 = 0 → (x_rg (w11.1 4 2)) ∧ ((x_rg (w11.1 2 1)) ∧ (((w11.1 4 2) < (w11.1 2 1) → (q_tk0 w11.1) ∧ ((0 ≤ ((w11.1 4 2) + 1) ∧ ((w11.1 4 2) + 1) ≤ 1000) ∧ (x_S g (k + 11 + 2) 57 Q 13 [x_r 4, x_i (x_or (rl : Int) 0), x_i (((rl + R : Nat) : Int) + 1), x_n, x_n] [] ((x_u w11.1 4 2 (q_pb w11.1 ((w11.1 4 2) + 1))), w11.2.1, w11.2.2.1, w11.2.2.2)))) ∧ ((w11.1 2 1) ≤ (w11.1 4 2) → (x_rg (w11.1 5 3)) ∧ (((w11.1 5 3) < 2 → Q [x_i (w11.1 2 1)] w11) ∧ (2 ≤ (w11.1 5 3) → x_X g (k + 11) 50 [x_r 5] w11 (fun rv w17 => ∃ z16, rv = [x_i z16] ∧ (x_rg z16) ∧ ((z16 = 0 → Q [x_i (-1)] w17) ∧ (¬ z16 = 0 → Q [x_i (w17.1 2 1)] w17))))))))) ∧ (z10 = 0 → Q [x_i (w11.1 4 2)] w11))) := fun c1 c2 c3 => by
      have hin : i < n := q_tk_lt (b := b) (by omega)
      rw [if_neg c1, if_pos ⟨c2, c3⟩] at q1 q2
      refine s_oRoom (k := k) hT hin e3 c3 e7 (fun e he I1 f1 h4 => ⟨0, rfl, by decide, fun h => absurd rfl h, fun _ => ?_⟩) (fun j V hj I1 f1 T1 h5 h6 h7 => ⟨1, rfl, by decide, fun _ => ?_, fun h => absurd h (by decide)⟩)
      · dsimp only
        rw [h4]
        rw [he] at q1
        exact q1 e rfl I1 (x_fr_trans hf f1)
      · rw [hj] at q1 q2
        have k1 := q_its_ok 6 _ 0 (q_us2 100) j V q_us_vk.2 (q_s_le (show i + 1 ≤ n by omega)) hj
        exact aft I1 j rl (R + 1) ru (q_pt R to V) _ _ o0 (by omega) T1 h5 (by omega) hrl (fun x hx => (h6 x).trans (e6 x hx)) h7 hv (q_pt_k ht k1.2.2) (by omega) (x_fr_trans hf f1) q1 q2
    refine v_oRead_L13 (k := k + 11) ?_
    rw [h42, ea]
    refine ⟨⟨by omega, by omega⟩, fun c => by omega, fun _ => ⟨t0, ⟨by omega, by omega⟩, ⟨by omega, by omega⟩, fun c1 => ⟨fun c2 => rest (by omega) (by omega), fun c2 => ?_⟩, fun c1 => ⟨⟨by omega, by omega⟩, fun c2 => ⟨fun c3 => rest (by omega) (by omega), fun c3 => by omega⟩, fun c2 => ⟨fun c3 => ?_, fun c3 => by omega⟩⟩⟩⟩
    · rw [e3]
      exact ⟨⟨by omega, by omega⟩, fun c3 => rest (by omega) (by omega), fun c3 => room (by omega) c2 (by omega)⟩
    · have hin : i < n := q_tk_lt (b := b) (by omega)
      rw [if_pos ⟨c1, (show rl = 0 by omega)⟩] at q1 q2
      have er : rl = 0 := by omega
      subst er
      refine x_le (show 10 ≤ k + 11 by omega) (s_oRules (k := 0) hT hin e6 (fun e he I1 f1 h4 => ⟨0, rfl, by decide, fun _ => ?_, fun h => absurd rfl h⟩) (fun j V hj I1 f1 T1 h6 => ⟨1, rfl, by decide, fun h => absurd h (by decide), fun _ => ?_⟩))
      · dsimp only
        rw [h4]
        rw [he] at q1
        exact q1 e rfl I1 (x_fr_trans hf (x_fr_mono f1 rfl))
      · rw [hj] at q1 q2
        have k1 := q_its_ok 5 _ 0 ru j V hv (q_s_le (show i + 1 ≤ n by omega)) hj
        exact aft I1 j 1 R V to _ _ rfl (by omega) T1 ((f1 _ _ rfl).trans e3) hR (by omega) h6 (fun x hx => (f1 7 x rfl).trans (e7 x hx)) k1.2.2 ht (by omega) (x_fr_trans hf (x_fr_mono f1 rfl)) q1 q2
theorem s_oRead {g : x_G} {k : Nat} {Q : x_Q} {I L : Nat → Nat → Int} {lp tp : Nat} {b : Nat → Int} {n : Nat} (h3 : I 3 = b) (h2 : I 2 1 = (n : Int)) (hn : n ≤ 240) (hb : ∀ k, k < n → 1 ≤ b k ∧ b k ≤ 255) (hs : q_str I) (hst : q_sta I) (q1 : ∀ e, q_off b n = .inl e → ∀ I', x_fr q_fO I I' → Q [x_i (e : Int)] (I', L, lp, tp)) (q2 : ∀ R ru to, q_off b n = .inr (R, ru, to) → ∀ I', x_fr q_fO I I' → I' 5 3 = (R : Int) → (∀ x, x < 4 → I' 6 x = ru x) → (∀ x, x < 5 * R → I' 7 x = to x) → Q [x_i (-1)] (I', L, lp, tp)) : x_X g (k + 13) 57 [x_r 4] (I, L, lp, tp) Q := by
  have t0 : q_tk0 I := ⟨by omega, by omega, fun k hk => by rw [h3]; exact hb k (by omega)⟩
  have ep : q_pb I 0 = ((q_s b n 0 : Nat) : Int) := by unfold q_pb; rw [h3, h2]; rfl
  refine v_oRead (k := k + 11) ⟨t0, ?_⟩
  rw [ep]
  have f0 : x_fr q_fO I (x_u (x_u (x_cp I 5000 6 0 0 4) 5 3 0) 4 2 ((q_s b n 0 : Nat) : Int)) := x_fr_u (x_fr_u (fun a x hm => by
    rw [x_cp_eq]
    by_cases c : a = 6 ∧ 0 ≤ x ∧ x < 0 + 4
    · exfalso
      obtain ⟨rfl, c1, c2⟩ := c
      rw [show x_mem q_fO 6 x = true from x_memI (6, 0, 4) (by decide) rfl (Nat.zero_le _) (show x < 4 by omega)] at hm
      cases hm
    · rw [if_neg c]) rfl) rfl
  have hi := x_fr_hi f0 (by decide)
  have T0 : q_OT (x_u (x_u (x_cp I 5000 6 0 0 4) 5 3 0) 4 2 ((q_s b n 0 : Nat) : Int)) b n (q_s b n 0) := ⟨by rw [← h3]; funext x; exact f0 3 x rfl, (f0 2 1 rfl).trans h2, hn, hb, q_str_fr (S := []) hs hi, q_sta_fr hst hi, x_u_same _ _ _ _, q_s_le (Nat.zero_le _)⟩
  exact s_oRead_L I 10 (q_s b n 0) 0 0 (q_us2 115) (fun _ => 0) _ T0 rfl (by omega) (by omega) (fun x hx => by
    rw [x_u_ne _ _ (by omega), x_u_ne _ _ (by omega), x_cp_eq, if_pos ⟨rfl, by omega, by omega⟩, show 0 + (x - 0) = x by omega]
    exact (hst.1 x hx).1) (fun x hx => absurd hx (by omega)) q_us_vk.1 (fun r hr => absurd hr (by omega)) (by omega) f0 q1 q2
def q_c8 (t : Nat) : Nat := (t.testBit 0).toNat + (t.testBit 1).toNat + (t.testBit 2).toNat + (t.testBit 3).toNat + (t.testBit 4).toNat + (t.testBit 5).toNat + (t.testBit 6).toNat + (t.testBit 7).toNat
theorem q_c8_256 : ∀ t, t < 256 → q_c8 t ≤ 8 ∧ ∀ i, i < 8 → t.testBit i = false → q_c8 (t ||| 2 ^ i) = q_c8 t + 1 ∧ t ||| 2 ^ i < 256 ∧ q_c8 t < 8 := by decide +kernel
def q_rdn (b : Nat → Int) (n : Nat) : Nat → Nat → Nat → Nat → (Nat → Int) → Nat ⊕ (Nat × (Nat → Int))
  | 0, i, _, _, _ => .inl i
  | f + 1, i, t, m, V => if n ≤ i then (if m = 0 then .inl n else .inr (m, V)) else if b i - 48 < 0 ∨ 8 ≤ b i - 48 ∨ t.testBit (b i - 48).toNat = true then .inl i else q_rdn b n f (q_s b n (i + 1)) (t ||| 2 ^ (b i - 48).toNat) (m + 1) (q_up V m (b i - 48))
theorem q_rdn_s (b : Nat → Int) (n f i t m : Nat) (V : Nat → Int) : q_rdn b n (f + 1) i t m V = if n ≤ i then (if m = 0 then .inl n else .inr (m, V)) else if b i - 48 < 0 ∨ 8 ≤ b i - 48 ∨ t.testBit (b i - 48).toNat = true then .inl i else q_rdn b n f (q_s b n (i + 1)) (t ||| 2 ^ (b i - 48).toNat) (m + 1) (q_up V m (b i - 48)) := rfl
def q_rnd (b : Nat → Int) (n : Nat) : Nat ⊕ (Nat × (Nat → Int)) := q_rdn b n (n + 1) (q_s b n 0) 0 0 (fun _ => -1)
def q_rv (t m : Nat) (V : Nat → Int) : Prop := m ≤ 8 ∧ (∀ x, x < m → (0 ≤ V x ∧ V x < 8) ∧ t.testBit (V x).toNat = true) ∧ (∀ x, m ≤ x → V x = -1) ∧ ∀ x x', x < m → x' < m → V x = V x' → x = x'
theorem q_rdn_ok {b : Nat → Int} {n : Nat} : ∀ (f i t m : Nat) (V : Nat → Int) (m' : Nat) (V' : Nat → Int), t < 256 → q_c8 t = m → q_rv t m V → q_rdn b n f i t m V = .inr (m', V') → (∃ t', q_rv t' m' V') ∧ 1 ≤ m'
  | 0, i, t, m, V, m', V' => fun _ _ _ h => by cases h
  | f + 1, i, t, m, V, m', V' => fun ht hm hv h => by
    rw [q_rdn_s] at h
    by_cases c : n ≤ i
    · rw [if_pos c] at h
      by_cases c0 : m = 0
      · rw [if_pos c0] at h; cases h
      · rw [if_neg c0] at h
        cases h
        exact ⟨⟨t, hv⟩, by omega⟩
    · rw [if_neg c] at h
      by_cases c2 : b i - 48 < 0 ∨ 8 ≤ b i - 48 ∨ t.testBit (b i - 48).toNat = true
      · rw [if_pos c2] at h; cases h
      · rw [if_neg c2] at h
        have c3 : t.testBit (b i - 48).toNat = false := by
          cases e : t.testBit (b i - 48).toNat with
          | false => rfl
          | true => exact absurd (Or.inr (Or.inr e)) c2
        have d0 : 0 ≤ b i - 48 := by
          by_cases e : b i - 48 < 0
          · exact absurd (Or.inl e) c2
          · omega
        have d8 : b i - 48 < 8 := by
          by_cases e : 8 ≤ b i - 48
          · exact absurd (Or.inr (Or.inl e)) c2
          · omega
        obtain ⟨k1, k2, k3⟩ := (q_c8_256 t ht).2 _ (show (b i - 48).toNat < 8 by omega) c3
        refine q_rdn_ok f _ _ _ _ m' V' k2 (by omega) ⟨by omega, fun x hx => ?_, fun x hx => ?_, fun x x' hx hx' e => ?_⟩ h
        · by_cases e : x = m
          · subst e
            rw [q_up_at, Nat.testBit_or, Nat.testBit_two_pow]
            refine ⟨⟨d0, d8⟩, by simp⟩
          · rw [q_up_ne e]
            have := hv.2.1 x (by omega)
            refine ⟨this.1, ?_⟩
            rw [Nat.testBit_or, this.2, Bool.true_or]
        · rw [q_up_ne (by omega)]; exact hv.2.2.1 x (by omega)
        · have ne : ∀ y, y < m → ¬ V y = b i - 48 := fun y hy h1 => by
            have := (hv.2.1 y hy).2
            rw [h1, c3] at this
            cases this
          by_cases e1 : x = m
          · by_cases e2 : x' = m
            · omega
            · subst e1
              rw [q_up_at, q_up_ne e2] at e
              exact absurd e.symm (ne x' (by omega))
          · by_cases e2 : x' = m
            · subst e2
              rw [q_up_at, q_up_ne e1] at e
              exact absurd e (ne x (by omega))
            · rw [q_up_ne e1, q_up_ne e2] at e
              exact hv.2.2.2 x x' (by omega) (by omega) e
theorem s_rdRound {g : x_G} {k : Nat} {Q : x_Q} {I L : Nat → Nat → Int} {lp tp : Nat} {b : Nat → Int} {n : Nat} (h3 : I 3 = b) (h2 : I 2 1 = (n : Int)) (hn : n ≤ 240) (hb : ∀ k, k < n → 1 ≤ b k ∧ b k ≤ 255) (q1 : ∀ e, q_rnd b n = .inl e → ∀ I', x_fr [(13, 0, 8)] I I' → Q [x_i (e : Int)] (I', L, lp, tp)) (q2 : ∀ m V, q_rnd b n = .inr (m, V) → ∀ I', x_fr [(13, 0, 8)] I I' → (∀ x, x < 8 → I' 13 x = V x) → Q [x_i (-1)] (I', L, lp, tp)) : x_X g (k + 2) 122 [x_r 1] (I, L, lp, tp) Q := by
  have tk : ∀ I1, x_fr [(13, 0, 8)] I I1 → q_tk0 I1 ∧ I1 3 = b ∧ I1 2 1 = (n : Int) := fun I1 f1 => by
    have e3 : I1 3 = b := by rw [← h3]; funext x; exact f1 3 x rfl
    have e2 : I1 2 1 = (n : Int) := (f1 2 1 rfl).trans h2
    exact ⟨⟨by omega, by omega, fun k hk => by rw [e3]; exact hb k (by omega)⟩, e3, e2⟩
  have main : ∀ (f i t m : Nat) (V : Nat → Int) (I1 : Nat → Nat → Int), i ≤ n → n + 1 ≤ i + f → t < 256 → q_c8 t = m → x_fr [(13, 0, 8)] I I1 → (∀ x, x < 8 → I1 13 x = V x) → (∀ e, q_rdn b n f i t m V = .inl e → ∀ I', x_fr [(13, 0, 8)] I I' → Q [x_i (e : Int)] (I', L, lp, tp)) → (∀ m' V', q_rdn b n f i t m V = .inr (m', V') → ∀ I', x_fr [(13, 0, 8)] I I' → (∀ x, x < 8 → I' 13 x = V' x) → Q [x_i (-1)] (I', L, lp, tp)) → x_S g (k + 2) 122 Q 21 [x_r 1, x_i (t : Int), x_i (m : Int), x_i (i : Int), x_n] [] (I1, L, lp, tp) := by
    intro f
    induction f with
    | zero => intro i t m V I1 h1 h2; omega
    | succ f ih =>
      intro i t m V I1 hi hf ht hm f1 hV a1 a2
      rw [q_rdn_s] at a1 a2
      obtain ⟨t0, e3, e2⟩ := tk I1 f1
      have m8 := (q_c8_256 t ht).1
      refine v_rdRound_L21 (k := k) ?_
      rw [e2]
      refine ⟨⟨by omega, by omega⟩, ⟨by omega, by omega⟩, fun c => ⟨⟨by omega, by omega⟩, fun c1 => ?_, fun c1 => ?_⟩, fun c => ?_⟩
      · rw [if_pos (by omega), if_neg (by omega)] at a2
        exact a2 _ _ rfl I1 f1 hV
      · rw [if_pos (by omega), if_pos (by omega)] at a1
        exact a1 _ rfl I1 f1
      · have hin : i < n := by omega
        have hbi := hb i hin
        have ea : q_at I1 (i : Int) = b i := by
          unfold q_at
          rw [e2, e3, if_pos (by omega)]
          rfl
        have ep : q_pb I1 ((i : Int) + 1) = ((q_s b n (i + 1) : Nat) : Int) := by unfold q_pb; rw [e3, e2]; rfl
        rw [ea, ep]
        rw [if_neg (by omega)] at a1 a2
        refine ⟨t0, ⟨by omega, by omega⟩, fun c1 => ?_, fun c1 => ⟨fun c2 => ?_, fun c2 => ⟨⟨by omega, by omega⟩, ⟨by omega, by omega⟩, fun c3 => ?_, fun c3 => ?_⟩⟩⟩
        · rw [if_pos (Or.inl c1)] at a1
          exact a1 _ rfl I1 f1
        · rw [if_pos (Or.inr (Or.inl c2))] at a1
          exact a1 _ rfl I1 f1
        · have c3' : t.testBit (b i - 48).toNat = true := c3
          rw [if_pos (Or.inr (Or.inr c3'))] at a1
          exact a1 _ rfl I1 f1
        · have c3' : ¬ t.testBit (b i - 48).toNat = true := c3
          rw [if_neg (fun h => h.elim (fun h => by omega) (fun h => h.elim (fun h => by omega) c3'))] at a1 a2
          obtain ⟨a, ha⟩ := Int.eq_ofNat_of_zero_le c1
          rw [ha] at a1 a2 c3' ⊢
          rw [show ((a : Int)).toNat = a by omega] at a1 a2 c3'
          obtain ⟨k1, k2, k3⟩ := (q_c8_256 t ht).2 a (by omega) (by cases e : t.testBit a with
            | false => rfl
            | true => exact absurd e c3')
          obtain ⟨o1, o2⟩ := q_or1 t a ht (by omega)
          rw [o1, show ((m : Int)).toNat = m by omega]
          have hs1 := q_s_ge b n (i + 1)
          exact ⟨⟨by omega, by omega⟩, fun _ => ⟨⟨by omega, by omega⟩, ⟨by omega, by omega⟩, ih (q_s b n (i + 1)) (t ||| 2 ^ a) (m + 1) (q_up V m (a : Int)) _ (q_s_le (show i + 1 ≤ n by omega)) (by omega) k2 (by omega) (x_fr_u (k := m) f1 (x_mem1 ⟨by omega, by omega⟩)) (fun x hx => by
            by_cases c : x = m
            · subst c; rw [x_u_same]; exact q_up_at.symm
            · rw [x_u_ne _ _ (by omega), hV x hx]; exact (q_up_ne c).symm) a1 a2⟩, fun c => by omega⟩
  have pre : ∀ (j i : Nat) (I1 : Nat → Nat → Int), i + j = 8 → x_fr [(13, 0, 8)] I I1 → (∀ x, x < i → I1 13 x = -1) → x_S g (k + 2) 122 Q 6 [x_r 1, x_i 0, x_i 0, x_i (i : Int), x_n] [] (I1, L, lp, tp) := by
    intro j
    induction j with
    | zero =>
      intro i I1 hi f1 hV
      obtain ⟨t0, e3, e2⟩ := tk I1 f1
      have ep : q_pb I1 0 = ((q_s b n 0 : Nat) : Int) := by unfold q_pb; rw [e3, e2]; rfl
      refine v_rdRound_L6 (k := k) ⟨⟨by omega, by omega⟩, fun _ => ⟨t0, ?_⟩, fun c => by omega⟩
      rw [ep]
      exact main (n + 1) (q_s b n 0) 0 0 (fun _ => -1) I1 (q_s_le (Nat.zero_le _)) (by omega) (by decide) (by decide) f1 (fun x hx => hV x (by omega)) q1 q2
    | succ j ih =>
      intro i I1 hi f1 hV
      refine v_rdRound_L6 (k := k) ⟨⟨by omega, by omega⟩, fun c => by omega, fun _ => ⟨⟨by omega, by omega⟩, ?_⟩⟩
      rw [show ((i : Int)).toNat = i by omega]
      exact ih (i + 1) _ (by omega) (x_fr_u (k := i) f1 (x_mem1 ⟨by omega, by omega⟩)) (fun x hx => by
        by_cases c : x = i
        · subst c; exact x_u_same _ _ _ _
        · rw [x_u_ne _ _ (by omega)]; exact hV x (by omega))
  exact v_rdRound (k := k) (pre 8 0 I (by omega) (x_fr_refl _ _) (fun x hx => absurd hx (by omega)))
