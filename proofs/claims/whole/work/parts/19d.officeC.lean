/-! texts of an office: clauses; the class reads an office -/
theorem q_num_ok {b : Nat → Int} {n i j : Nat} {lo hi v : Int} (h : q_num b n lo hi i = .inr (j, v)) (hi' : i ≤ n) : (lo ≤ v ∧ v ≤ hi) ∧ i ≤ j ∧ j ≤ n := by
  unfold q_num at h
  by_cases c : q_dg b n 3 i = 0
  · rw [if_pos c] at h; cases h
  · rw [if_neg c] at h
    by_cases c2 : 2 < q_dg b n 3 i ∨ q_nv b i (q_dg b n 3 i) < lo ∨ hi < q_nv b i (q_dg b n 3 i)
    · rw [if_pos c2] at h; cases h
    · rw [if_neg c2] at h
      cases h
      have := q_s_ge b n (i + q_dg b n 3 i)
      have := q_s_le (b := b) (q_dg_n b n 3 i hi')
      omega
theorem q_its_s (b : Nat → Int) (n A : Nat) (kd : Int) (f i t : Nat) (V : Nat → Int) : q_its b n A kd (f + 1) i t V = if n ≤ i ∨ q_tk b n i = 59 then .inr (i, V) else if q_ix A (q_tk b n i) < 0 ∨ t.testBit (q_ix A (q_tk b n i)).toNat = true then .inl i else q_bn (q_num b n (q_lea kd (q_ix A (q_tk b n i)).toNat) (q_mo2 kd (q_ix A (q_tk b n i)).toNat) (q_s b n (i + 1))) (fun j v => q_its b n A kd f j (t ||| 2 ^ (q_ix A (q_tk b n i)).toNat) (q_up V (q_ix A (q_tk b n i)).toNat v)) := rfl
def q_vk (kd : Int) (len : Nat) (V : Nat → Int) : Prop := ∀ w, w < len → q_lea kd w ≤ V w ∧ V w ≤ q_mo2 kd w
theorem q_its_ok {b : Nat → Int} {n A len : Nat} {kd : Int} : ∀ (f i t : Nat) (V : Nat → Int) (j : Nat) (V' : Nat → Int), q_vk kd len V → i ≤ n → q_its b n A kd f i t V = .inr (j, V') → (i ≤ j ∧ j ≤ n) ∧ (n ≤ j ∨ q_tk b n j = 59) ∧ q_vk kd len V'
  | 0, i, t, V, j, V' => fun _ _ h => by cases h
  | f + 1, i, t, V, j, V' => fun hV hi h => by
    rw [q_its_s] at h
    by_cases c : n ≤ i ∨ q_tk b n i = 59
    · rw [if_pos c] at h
      cases h
      exact ⟨⟨Nat.le_refl _, hi⟩, c, hV⟩
    · rw [if_neg c] at h
      by_cases c2 : q_ix A (q_tk b n i) < 0 ∨ t.testBit (q_ix A (q_tk b n i)).toNat = true
      · rw [if_pos c2] at h; cases h
      · rw [if_neg c2] at h
        have hs1 := q_s_ge b n (i + 1)
        have hs2 := q_s_le (b := b) (show i + 1 ≤ n by omega)
        cases e : q_num b n (q_lea kd (q_ix A (q_tk b n i)).toNat) (q_mo2 kd (q_ix A (q_tk b n i)).toNat) (q_s b n (i + 1)) with
        | inl e' => rw [e] at h; cases h
        | inr p =>
          obtain ⟨j1, v⟩ := p
          rw [e] at h
          have k1 := q_num_ok e hs2
          have k2 := q_its_ok f j1 _ _ j V' (fun w hw => by
            by_cases cw : w = (q_ix A (q_tk b n i)).toNat
            · subst cw; rw [q_up_at]; exact k1.1
            · rw [q_up_ne cw]; exact hV w hw) k1.2.2 h
          exact ⟨by omega, k2.2⟩
def q_tw2 (to : Nat → Int) (a : Nat) : Nat → Nat → Bool
  | 0, _ => false
  | m + 1, c => if to (5 * a) = to (5 * c) ∧ to (5 * a + 1) = to (5 * c + 1) then true else q_tw2 to a m (c + 1)
def q_tw1 (to : Nat → Int) : Nat → Nat → Bool
  | 0, _ => false
  | m + 1, a => if q_tw2 to a a 0 = true then true else q_tw1 to m (a + 1)
abbrev q_OR : Type := Nat × (Nat → Int) × (Nat → Int)
def q_fin (n R : Nat) (ru to : Nat → Int) : Nat ⊕ q_OR := if R < 2 ∨ q_tw1 to R 0 = true then .inl n else .inr (R, ru, to)
def q_pt (R : Nat) (to V : Nat → Int) : Nat → Int := fun x => if 5 * R ≤ x ∧ x < 5 * R + 5 then V (x - 5 * R) else to x
def q_bi (r : Nat ⊕ (Nat × (Nat → Int))) (K : Nat → (Nat → Int) → Nat ⊕ q_OR) : Nat ⊕ q_OR := match r with
  | .inl e => .inl e
  | .inr (j, V) => K j V
def q_cls (b : Nat → Int) (n : Nat) : Nat → Nat → Nat → Nat → (Nat → Int) → (Nat → Int) → Nat ⊕ q_OR
  | 0, i, _, _, _, _ => .inl i
  | f + 1, i, rl, R, ru, to => if q_tk b n i = 115 ∧ rl = 0 then q_bi (q_its b n 5102 115 5 (q_s b n (i + 1)) 0 ru) (fun j V => if n ≤ j then q_fin n R V to else q_cls b n f (q_s b n (j + 1)) 1 R V to) else if q_tk b n i = 100 ∧ R < 8 then q_bi (q_its b n 5103 100 6 (q_s b n (i + 1)) 0 (q_us2 100)) (fun j V => if n ≤ j then q_fin n (R + 1) ru (q_pt R to V) else q_cls b n f (q_s b n (j + 1)) rl (R + 1) ru (q_pt R to V)) else .inl i
theorem q_cls_s (b : Nat → Int) (n f i rl R : Nat) (ru to : Nat → Int) : q_cls b n (f + 1) i rl R ru to = if q_tk b n i = 115 ∧ rl = 0 then q_bi (q_its b n 5102 115 5 (q_s b n (i + 1)) 0 ru) (fun j V => if n ≤ j then q_fin n R V to else q_cls b n f (q_s b n (j + 1)) 1 R V to) else if q_tk b n i = 100 ∧ R < 8 then q_bi (q_its b n 5103 100 6 (q_s b n (i + 1)) 0 (q_us2 100)) (fun j V => if n ≤ j then q_fin n (R + 1) ru (q_pt R to V) else q_cls b n f (q_s b n (j + 1)) rl (R + 1) ru (q_pt R to V)) else .inl i := rfl
def q_off (b : Nat → Int) (n : Nat) : Nat ⊕ q_OR := q_cls b n 10 (q_s b n 0) 0 0 (q_us2 115) (fun _ => 0)
theorem q_us_vk : q_vk 115 4 (q_us2 115) ∧ q_vk 100 5 (q_us2 100) := by
  constructor
  · intro w hw
    rcases (show w = 0 ∨ w = 1 ∨ w = 2 ∨ w = 3 by omega) with rfl | rfl | rfl | rfl <;> decide
  · intro w hw
    rcases (show w = 0 ∨ w = 1 ∨ w = 2 ∨ w = 3 ∨ w = 4 by omega) with rfl | rfl | rfl | rfl | rfl <;> decide
def q_tvk (R : Nat) (to : Nat → Int) : Prop := ∀ r, r < R → q_vk 100 5 (fun w => to (5 * r + w))
theorem q_pt_k {R : Nat} {to V : Nat → Int} (h : q_tvk R to) (hV : q_vk 100 5 V) : q_tvk (R + 1) (q_pt R to V) := fun r hr w hw => by
  dsimp only
  unfold q_pt
  by_cases c : r = R
  · subst c
    rw [if_pos (by omega), show 5 * r + w - 5 * r = w by omega]
    exact hV w hw
  · rw [if_neg (by omega)]
    exact h r (by omega) w hw
theorem q_fin_ok {n R R' : Nat} {ru to ru' to' : Nat → Int} (hR : R ≤ 8) (hv : q_vk 115 4 ru) (ht : q_tvk R to) (h : q_fin n R ru to = .inr (R', ru', to')) : q_Wo R' ru' to' ∧ 2 ≤ R' := by
  unfold q_fin at h
  by_cases c : R < 2 ∨ q_tw1 to R 0 = true
  · rw [if_pos c] at h; cases h
  · rw [if_neg c] at h
    cases h
    have c' : ¬ R < 2 := fun h => c (Or.inl h)
    refine ⟨⟨Or.inr (by omega), fun _ => ⟨hv 0 (by omega), hv 1 (by omega), hv 2 (by omega), hv 3 (by omega)⟩, fun r hr => ⟨ht r hr 0 (by omega), ht r hr 1 (by omega), ht r hr 2 (by omega), ht r hr 3 (by omega), ht r hr 4 (by omega)⟩⟩, by omega⟩
theorem q_cls_ok {b : Nat → Int} {n : Nat} : ∀ (f i rl R : Nat) (ru to : Nat → Int) (R' : Nat) (ru' to' : Nat → Int), R ≤ 8 → i ≤ n → q_vk 115 4 ru → q_tvk R to → q_cls b n f i rl R ru to = .inr (R', ru', to') → q_Wo R' ru' to' ∧ 2 ≤ R'
  | 0, i, rl, R, ru, to, R', ru', to' => fun _ _ _ _ h => by cases h
  | f + 1, i, rl, R, ru, to, R', ru', to' => fun hR hi hv ht h => by
    rw [q_cls_s] at h
    by_cases c : q_tk b n i = 115 ∧ rl = 0
    · rw [if_pos c] at h
      have hin : i < n := q_tk_lt (b := b) (by omega)
      cases e : q_its b n 5102 115 5 (q_s b n (i + 1)) 0 ru with
      | inl e' => rw [e] at h; cases h
      | inr p =>
        obtain ⟨j, V⟩ := p
        rw [e] at h
        have k1 := q_its_ok 5 _ 0 ru j V hv (q_s_le (show i + 1 ≤ n by omega)) e
        have h : (if n ≤ j then q_fin n R V to else q_cls b n f (q_s b n (j + 1)) 1 R V to) = .inr (R', ru', to') := h
        by_cases cj : n ≤ j
        · rw [if_pos cj] at h; exact q_fin_ok hR k1.2.2 ht h
        · rw [if_neg cj] at h
          exact q_cls_ok f _ _ _ _ _ _ _ _ hR (q_s_le (show j + 1 ≤ n by omega)) k1.2.2 ht h
    · rw [if_neg c] at h
      by_cases c2 : q_tk b n i = 100 ∧ R < 8
      · rw [if_pos c2] at h
        have hin : i < n := q_tk_lt (b := b) (by omega)
        cases e : q_its b n 5103 100 6 (q_s b n (i + 1)) 0 (q_us2 100) with
        | inl e' => rw [e] at h; cases h
        | inr p =>
          obtain ⟨j, V⟩ := p
          rw [e] at h
          have k1 := q_its_ok 6 _ 0 (q_us2 100) j V q_us_vk.2 (q_s_le (show i + 1 ≤ n by omega)) e
          have h : (if n ≤ j then q_fin n (R + 1) ru (q_pt R to V) else q_cls b n f (q_s b n (j + 1)) rl (R + 1) ru (q_pt R to V)) = .inr (R', ru', to') := h
          by_cases cj : n ≤ j
          · rw [if_pos cj] at h; exact q_fin_ok (by omega) hv (q_pt_k ht k1.2.2) h
          · rw [if_neg cj] at h
            exact q_cls_ok f _ _ _ _ _ _ _ _ (by omega) (q_s_le (show j + 1 ≤ n by omega)) hv (q_pt_k ht k1.2.2) h
      · rw [if_neg c2] at h; cases h
theorem q_off_ok {b : Nat → Int} {n R : Nat} {ru to : Nat → Int} (h : q_off b n = .inr (R, ru, to)) : q_Wo R ru to ∧ 2 ≤ R := q_cls_ok 10 _ 0 0 _ _ _ _ _ (by omega) (q_s_le (Nat.zero_le _)) q_us_vk.1 (fun r hr => absurd hr (by omega)) h
theorem s_oTwo {g : x_G} {k : Nat} {Q : x_Q} {I L : Nat → Nat → Int} {lp tp R : Nat} {to : Nat → Int} (hR : R ≤ 8) (e3 : I 5 3 = (R : Int)) (e7 : ∀ x, x < 5 * R → I 7 x = to x) (hv : q_tvk R to) (hq : Q [x_i (if q_tw1 to R 0 = true then 1 else 0)] (I, L, lp, tp)) : x_X g (k + 2) 50 [x_r 5] (I, L, lp, tp) Q := by
  have rg : ∀ r w, r < R → w < 5 → x_rg (to (5 * r + w)) := fun r w hr hw => by
    have h1 : q_lea 100 w ≤ to (5 * r + w) ∧ to (5 * r + w) ≤ q_mo2 100 w := hv r hr w hw
    have h2 := q_lm2 100 w
    exact ⟨by omega, by omega⟩
  have l2 : ∀ (m a c : Nat) (K : Bool), c + m = a → a < R → (q_tw2 to a m c = true → Q [x_i 1] (I, L, lp, tp)) → (q_tw2 to a m c = false → x_S g (k + 2) 50 Q 2 [x_r 5, x_i ((a : Int) + 1), x_n] [] (I, L, lp, tp)) → x_S g (k + 2) 50 Q 8 [x_r 5, x_i (a : Int), x_i (c : Int)] [] (I, L, lp, tp) := by
    intro m
    induction m with
    | zero => exact fun a c K hc ha q1 q2 => v_oTwo_L8 ⟨⟨by omega, by omega⟩, ⟨by omega, by omega⟩, fun _ => q2 rfl, fun h => by omega⟩
    | succ m ih =>
      intro a c K hc ha q1 q2
      have ea0 : I 7 ((a : Int) * 5 + 0).toNat = to (5 * a + 0) := by rw [show ((a : Int) * 5 + 0).toNat = 5 * a + 0 by omega]; exact e7 _ (by omega)
      have ec0 : I 7 ((c : Int) * 5 + 0).toNat = to (5 * c + 0) := by rw [show ((c : Int) * 5 + 0).toNat = 5 * c + 0 by omega]; exact e7 _ (by omega)
      have ea1 : I 7 ((a : Int) * 5 + 1).toNat = to (5 * a + 1) := by rw [show ((a : Int) * 5 + 1).toNat = 5 * a + 1 by omega]; exact e7 _ (by omega)
      have ec1 : I 7 ((c : Int) * 5 + 1).toNat = to (5 * c + 1) := by rw [show ((c : Int) * 5 + 1).toNat = 5 * c + 1 by omega]; exact e7 _ (by omega)
      have u : q_tw2 to a (m + 1) c = if to (5 * a + 0) = to (5 * c + 0) ∧ to (5 * a + 1) = to (5 * c + 1) then true else q_tw2 to a m (c + 1) := rfl
      rw [u] at q1 q2
      have go : ¬ (to (5 * a + 0) = to (5 * c + 0) ∧ to (5 * a + 1) = to (5 * c + 1)) → x_S g (k + 2) 50 Q 8 [x_r 5, x_i (a : Int), x_i ((c : Int) + 1)] [] (I, L, lp, tp) := fun h => by
        rw [if_neg h] at q1 q2
        exact ih a (c + 1) K (by omega) ha q1 q2
      refine v_oTwo_L8 ?_
      rw [ea0, ec0, ea1, ec1]
      refine ⟨⟨by omega, by omega⟩, ⟨by omega, by omega⟩, fun h => by omega, fun _ => ⟨⟨by omega, by omega⟩, ⟨by omega, by omega⟩, rg a 0 ha (by omega), rg c 0 (by omega) (by omega), fun h => go (fun h2 => h h2.1), fun h => ⟨⟨by omega, by omega⟩, ⟨by omega, by omega⟩, rg a 1 ha (by omega), rg c 1 (by omega) (by omega), fun h1 => go (fun h2 => h1 h2.2), fun h1 => ?_⟩⟩⟩
      rw [if_pos ⟨h, h1⟩] at q1
      exact q1 rfl
  have l1 : ∀ (m a : Nat), a + m = R → (q_tw1 to m a = true → Q [x_i 1] (I, L, lp, tp)) → (q_tw1 to m a = false → Q [x_i 0] (I, L, lp, tp)) → x_S g (k + 2) 50 Q 2 [x_r 5, x_i (a : Int), x_n] [] (I, L, lp, tp) := by
    intro m
    induction m with
    | zero =>
      intro a ha q1 q2
      refine v_oTwo_L2 ?_
      rw [e3]
      exact ⟨⟨by omega, by omega⟩, ⟨by omega, by omega⟩, fun _ => q2 rfl, fun h => by omega⟩
    | succ m ih =>
      intro a ha q1 q2
      have u : q_tw1 to (m + 1) a = if q_tw2 to a a 0 = true then true else q_tw1 to m (a + 1) := rfl
      rw [u] at q1 q2
      refine v_oTwo_L2 ?_
      rw [e3]
      refine ⟨⟨by omega, by omega⟩, ⟨by omega, by omega⟩, fun h => by omega, fun _ => l2 a a 0 true (by omega) (by omega) (fun h => ?_) (fun h => ?_)⟩
      · rw [if_pos h] at q1
        exact q1 rfl
      · rw [if_neg (by rw [h]; decide)] at q1 q2
        exact ih (a + 1) (by omega) q1 q2
  refine v_oTwo (k := k) (l1 R 0 (by omega) (fun h => ?_) (fun h => ?_))
  · rw [if_pos h] at hq; exact hq
  · rw [if_neg (by rw [h]; decide)] at hq; exact hq
theorem s_oRules {g : x_G} {k : Nat} {Q : x_Q} {I L : Nat → Nat → Int} {lp tp : Nat} {b : Nat → Int} {n i : Nat} {ru : Nat → Int} (hT : q_OT I b n i) (hi : i < n) (e6 : ∀ x, x < 4 → I 6 x = ru x) (q1 : ∀ e, q_its b n 5102 115 5 (q_s b n (i + 1)) 0 ru = .inl e → ∀ I', x_fr [(4, 2, 3), (6, 0, 4)] I I' → I' 4 2 = (e : Int) → Q [x_i 0] (I', L, lp, tp)) (q2 : ∀ j V, q_its b n 5102 115 5 (q_s b n (i + 1)) 0 ru = .inr (j, V) → ∀ I', x_fr [(4, 2, 3), (6, 0, 4)] I I' → q_OT I' b n j → (∀ x, x < 4 → I' 6 x = V x) → Q [x_i 1] (I', L, lp, tp)) : x_X g (k + 10) 58 [x_r 4] (I, L, lp, tp) Q := by
  have t0 := q_OT_0 hT
  have ep := q_OT_pb1 hT i
  have h42 := hT.2.2.2.2.2.2.1
  have h3 := hT.2.2.1
  refine v_oRules (k := k + 9) ?_
  refine v_oItemsS (k := k + 3) ?_
  rw [h42, ep]
  refine ⟨t0, ⟨by omega, by omega⟩, ?_⟩
  exact s_itS_L (k := k) I 5 (q_s b n (i + 1)) 0 ru _ (q_OT_mv hT (q_s_le (show i + 1 ≤ n by omega))) e6 (by decide) (by decide) (x_fr_u (x_fr_refl _ _) rfl) (fun e he I' f' h4 => ⟨0, rfl, Or.inl rfl, q1 e he I' f' h4⟩) (fun j V hj I' f' T' h6 => ⟨1, rfl, Or.inr rfl, q2 j V hj I' f' T' h6⟩)
theorem s_oRoom {g : x_G} {k : Nat} {Q : x_Q} {I L : Nat → Nat → Int} {lp tp : Nat} {b : Nat → Int} {n i R : Nat} {to : Nat → Int} (hT : q_OT I b n i) (hi : i < n) (e3 : I 5 3 = (R : Int)) (hR : R < 8) (e7 : ∀ x, x < 5 * R → I 7 x = to x) (q1 : ∀ e, q_its b n 5103 100 6 (q_s b n (i + 1)) 0 (q_us2 100) = .inl e → ∀ I', x_fr q_fO I I' → I' 4 2 = (e : Int) → Q [x_i 0] (I', L, lp, tp)) (q2 : ∀ j V, q_its b n 5103 100 6 (q_s b n (i + 1)) 0 (q_us2 100) = .inr (j, V) → ∀ I', x_fr q_fO I I' → q_OT I' b n j → I' 5 3 = ((R + 1 : Nat) : Int) → (∀ x, I' 6 x = I 6 x) → (∀ x, x < 5 * (R + 1) → I' 7 x = q_pt R to V x) → Q [x_i 1] (I', L, lp, tp)) : x_X g (k + 11) 59 [x_r 4] (I, L, lp, tp) Q := by
  have h3 := hT.2.2.1
  have sta := hT.2.2.2.2.2.1.2
  refine v_oRoom (k := k + 9) ?_
  rw [e3]
  refine ⟨⟨by omega, by omega⟩, fun c => by omega, fun _ => ⟨by omega, by omega, ?_⟩⟩
  rw [show ((R : Int) + 1 - 1) * 5 = 5 * (R : Int) by omega, show ((R : Int) * 5).toNat = 5 * R by omega]
  have f0 : x_fr q_fO I (x_u (x_cp I 5001 7 0 (5 * R) 5) 5 3 ((R : Int) + 1)) := x_fr_u (fun a x hm => by
    rw [x_cp_eq]
    by_cases c : a = 7 ∧ 5 * R ≤ x ∧ x < 5 * R + 5
    · exfalso
      obtain ⟨rfl, c1, c2⟩ := c
      rw [show x_mem q_fO 7 x = true from x_memI (7, 0, 40) (by decide) rfl (Nat.zero_le _) (show x < 40 by omega)] at hm
      cases hm
    · rw [if_neg c]) rfl
  have T0 : q_OT (x_u (x_cp I 5001 7 0 (5 * R) 5) 5 3 ((R : Int) + 1)) b n i := q_OT_fr hT f0 hT.2.2.2.2.2.2.1 hT.2.2.2.2.2.2.2
  have t0 := q_OT_0 T0
  have ep := q_OT_pb1 T0 i
  have h42 := T0.2.2.2.2.2.2.1
  refine v_oItemsD (k := k + 3) ?_
  rw [h42, ep]
  refine ⟨t0, ⟨by omega, by omega⟩, ?_⟩
  have sub : ∀ {I1 : Nat → Nat → Int}, x_fr [(4, 2, 3), (7, 5 * R, 5 * R + 5)] (x_u (x_cp I 5001 7 0 (5 * R) 5) 5 3 ((R : Int) + 1)) I1 → x_fr q_fO I I1 := fun {I1} h => x_fr_trans f0 (fun a x hm => h a x (by
    cases e : x_mem [(4, 2, 3), (7, 5 * R, 5 * R + 5)] a x with
    | false => rfl
    | true =>
      obtain ⟨t, m1, m2, m3, m4⟩ := (x_mem_iff _ a x).mp e
      rcases List.mem_cons.mp m1 with rfl | m1
      · rw [show x_mem q_fO a x = true from x_memI (4, 2, 3) (by decide) m2 m3 m4] at hm; cases hm
      · rcases List.mem_cons.mp m1 with rfl | m1
        · dsimp only at m4
          rw [show x_mem q_fO a x = true from x_memI (7, 0, 40) (by decide) m2 (Nat.zero_le _) (show x < 40 by omega)] at hm; cases hm
        · cases m1))
  refine s_itD_L (k := k) (r := R) hR (x_u (x_cp I 5001 7 0 (5 * R) 5) 5 3 ((R : Int) + 1)) 6 (q_s b n (i + 1)) 0 (q_us2 100) _ (q_OT_mv T0 (q_s_le (show i + 1 ≤ n by omega))) (fun x hx => ?_) (by decide) (by decide) (x_fr_u (x_fr_refl _ _) rfl) (fun e he I' f' h4 => ⟨0, rfl, Or.inl rfl, q1 e he I' (sub f') h4⟩) (fun j V hj I' f' T' h7 => ⟨1, rfl, Or.inr rfl, q2 j V hj I' (sub f') T' ((f' _ _ rfl).trans ((x_u_same _ _ _ _).trans (by omega))) (fun x => (f' 6 x rfl).trans (by
      rw [x_u_ne _ _ (by omega), x_cp_eq, if_neg (by omega)])) (fun x hx => ?_)⟩)
  · rw [x_u_ne _ _ (by omega), x_u_ne _ _ (by omega), x_cp_eq, if_pos ⟨rfl, by omega, by omega⟩, show 0 + (5 * R + x - 5 * R) = x by omega]
    exact (sta x hx).1
  · unfold q_pt
    by_cases c : 5 * R ≤ x ∧ x < 5 * R + 5
    · rw [if_pos c, ← h7 (x - 5 * R) (by omega), show 5 * R + (x - 5 * R) = x by omega]
    · rw [if_neg c, ← e7 x (by omega)]
      refine (f' 7 x ?_).trans ?_
      · cases e : x_mem [(4, 2, 3), (7, 5 * R, 5 * R + 5)] 7 x with
        | false => rfl
        | true =>
          obtain ⟨t, m1, m2, m3, m4⟩ := (x_mem_iff _ 7 x).mp e
          rcases List.mem_cons.mp m1 with rfl | m1
          · dsimp only at m2; omega
          · rcases List.mem_cons.mp m1 with rfl | m1
            · dsimp only at m3 m4; omega
            · cases m1
      · rw [x_u_ne _ _ (by omega), x_cp_eq, if_neg (by omega)]
