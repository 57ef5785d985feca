/-! the reference reads an office, a round -/
theorem m_whole {g : x_G} {k : Nat} {Q : x_Q} {I L : Nat → Nat → Int} {lp tp R : Nat} {to : Nat → Int} (hR : R ≤ 8) (e3 : I 179 25 = (R : Int)) (e7 : ∀ x, x < 5 * R → I 187 x = to x) (hv : q_tvk R to) (hq : Q [x_i (if R < 2 ∨ q_tw1 to R 0 = true then 0 else 1)] (I, L, lp, tp)) : x_X g (k + 1) 219 [x_r 179] (I, L, lp, tp) Q := by
  have rg : ∀ r w, r < R → w < 5 → x_rg (to (5 * r + w)) := fun r w hr hw => by
    have h1 : q_lea 100 w ≤ to (5 * r + w) ∧ to (5 * r + w) ≤ q_mo2 100 w := hv r hr w hw
    have h2 := q_lm2 100 w
    exact ⟨by omega, by omega⟩
  have l2 : ∀ (m a c : Nat), c + m = a → a < R → (q_tw2 to a m c = true → Q [x_i 0] (I, L, lp, tp)) → (q_tw2 to a m c = false → x_S g (k + 1) 219 Q 2 [x_r 179, x_i ((a : Int) + 1), x_n] [] (I, L, lp, tp)) → x_S g (k + 1) 219 Q 8 [x_r 179, x_i (a : Int), x_i (c : Int)] [] (I, L, lp, tp) := by
    intro m
    induction m with
    | zero => exact fun a c hc ha q1 q2 => v_mWhole_L8 ⟨⟨by omega, by omega⟩, ⟨by omega, by omega⟩, fun _ => q2 rfl, fun h => by omega⟩
    | succ m ih =>
      intro a c hc ha q1 q2
      have ea0 : I 187 (5 * (a : Int)).toNat = to (5 * a + 0) := by rw [show (5 * (a : Int)).toNat = 5 * a + 0 by omega]; exact e7 _ (by omega)
      have ec0 : I 187 (5 * (c : Int)).toNat = to (5 * c + 0) := by rw [show (5 * (c : Int)).toNat = 5 * c + 0 by omega]; exact e7 _ (by omega)
      have ea1 : I 187 (5 * (a : Int) + 1).toNat = to (5 * a + 1) := by rw [show (5 * (a : Int) + 1).toNat = 5 * a + 1 by omega]; exact e7 _ (by omega)
      have ec1 : I 187 (5 * (c : Int) + 1).toNat = to (5 * c + 1) := by rw [show (5 * (c : Int) + 1).toNat = 5 * c + 1 by omega]; exact e7 _ (by omega)
      have u : q_tw2 to a (m + 1) c = if to (5 * a + 0) = to (5 * c + 0) ∧ to (5 * a + 1) = to (5 * c + 1) then true else q_tw2 to a m (c + 1) := rfl
      rw [u] at q1 q2
      have go : ¬ (to (5 * a + 0) = to (5 * c + 0) ∧ to (5 * a + 1) = to (5 * c + 1)) → x_S g (k + 1) 219 Q 8 [x_r 179, x_i (a : Int), x_i ((c : Int) + 1)] [] (I, L, lp, tp) := fun h => by
        rw [if_neg h] at q1 q2
        exact ih a (c + 1) (by omega) ha q1 q2
      refine v_mWhole_L8 ?_
      rw [ea0, ec0, ea1, ec1]
      refine ⟨⟨by omega, by omega⟩, ⟨by omega, by omega⟩, fun h => by omega, fun _ => ⟨⟨by omega, by omega⟩, ⟨by omega, by omega⟩, rg a 0 ha (by omega), rg c 0 (by omega) (by omega), fun h => go (fun h2 => h h2.1), fun h => ⟨⟨by omega, by omega⟩, ⟨by omega, by omega⟩, rg a 1 ha (by omega), rg c 1 (by omega) (by omega), fun h1 => go (fun h2 => h1 h2.2), fun h1 => ?_⟩⟩⟩
      rw [if_pos ⟨h, h1⟩] at q1
      exact q1 rfl
  have l1 : ∀ (m a : Nat), a + m = R → (q_tw1 to m a = true → Q [x_i 0] (I, L, lp, tp)) → (q_tw1 to m a = false → Q [x_i (if R < 2 then 0 else 1)] (I, L, lp, tp)) → x_S g (k + 1) 219 Q 2 [x_r 179, x_i (a : Int), x_n] [] (I, L, lp, tp) := by
    intro m
    induction m with
    | zero =>
      intro a ha q1 q2
      have q2 := q2 rfl
      refine v_mWhole_L2 ?_
      rw [e3]
      refine ⟨⟨by omega, by omega⟩, ⟨by omega, by omega⟩, fun _ => ⟨fun c => ?_, fun c => ?_⟩, fun h => by omega⟩
      · rw [if_pos (by omega)] at q2; exact q2
      · rw [if_neg (by omega)] at q2; exact q2
    | succ m ih =>
      intro a ha q1 q2
      have u : q_tw1 to (m + 1) a = if q_tw2 to a a 0 = true then true else q_tw1 to m (a + 1) := rfl
      rw [u] at q1 q2
      refine v_mWhole_L2 ?_
      rw [e3]
      refine ⟨⟨by omega, by omega⟩, ⟨by omega, by omega⟩, fun h => by omega, fun _ => l2 a a 0 (by omega) (by omega) (fun h => ?_) (fun h => ?_)⟩
      · rw [if_pos h] at q1
        exact q1 rfl
      · rw [if_neg (by rw [h]; decide)] at q1 q2
        exact ih (a + 1) (by omega) q1 q2
  refine v_mWhole (k := k) (l1 R 0 (by omega) (fun h => ?_) (fun h => ?_))
  · rw [if_pos (Or.inr h)] at hq; exact hq
  · by_cases c : R < 2
    · rw [if_pos (Or.inl c)] at hq; rw [if_pos c]; exact hq
    · rw [if_neg (fun h2 => h2.elim c (fun h3 => by rw [h] at h3; cases h3))] at hq; rw [if_neg c]; exact hq
theorem m_of_L {g : x_G} {k : Nat} {Q : x_Q} {L : Nat → Nat → Int} {lp : Nat} {b : Nat → Int} {n : Nat} (I0 : Nat → Nat → Int) : ∀ (f a rl R : Nat) (ru to : Nat → Int) (I : Nat → Nat → Int), q_OM I b n → I 179 10 = (a : Int) → a ≤ n → I 179 11 = -1 → I 179 25 = (R : Int) → R ≤ 8 → I 179 27 = (rl : Int) → rl ≤ 1 → (rl = 0 → ru = q_us2 115) → (∀ x, x < 4 → I 185 x = ru x) → (∀ x, x < 5 * R → I 187 x = to x) → q_vk 115 4 ru → q_tvk R to → rl + R + f = 10 → x_fr q_fOm I0 I → (∀ e, q_cls b n f (q_s b n a) rl R ru to = .inl e → e ≤ n → ∀ I', x_fr q_fOm I0 I' → I' 179 11 = (e : Int) → Q [] (I', L, lp, 180)) → (∀ R' ru' to', q_cls b n f (q_s b n a) rl R ru to = .inr (R', ru', to') → ∀ I', x_fr q_fOm I0 I' → I' 179 11 = -1 → I' 179 25 = (R' : Int) → (∀ x, x < 4 → I' 185 x = ru' x) → (∀ x, x < 5 * R' → I' 187 x = to' x) → Q [] (I', L, lp, 180)) → x_S g (k + 11 + 2) 220 Q 29 [x_r 179, x_i 1] [] (I, L, lp, 180)
  | 0, a, rl, R, ru, to, I => fun _ _ _ _ _ hR _ hrl _ _ _ _ _ hs => by omega
  | f + 1, a, rl, R, ru, to, I => fun hM h10 ha h11 e25 hR e27 hrl hru e185 e187 hv ht hs hf q1 q2 => by
    obtain ⟨l0, lA, lV, li, lt⟩ := q_OL hM h10 ha
    have n3 := hM.2.2.1
    rw [q_cls_s] at q1 q2
    have bad : ∀ (I1 : Nat → Nat → Int) (e : Nat), I1 179 11 = (e : Int) → e ≤ n → Q [] (I1, L, lp, 180) → x_S g (k + 11 + 2) 220 Q 29 [x_r 179, x_i 0] [] (I1, L, lp, 180) := fun I1 e h1 h2 hq => by
      refine v_mOffice_L29 (k := k + 11) ⟨by decide, fun _ => ?_, fun h => absurd rfl h⟩
      rw [h1]
      exact ⟨⟨by omega, by omega⟩, fun _ => hq, fun h => by omega⟩
    -- behind a clause that was read
    have aft : ∀ (I1 : Nat → Nat → Int) (j rl1 R1 : Nat) (ru1 to1 : Nat → Int), q_OM I1 b n → I1 179 10 = (j : Int) → j ≤ n → q_s b n j = j → (n ≤ j ∨ q_tk b n j = 59) → I1 179 11 = -1 → I1 179 25 = (R1 : Int) → R1 ≤ 8 → I1 179 27 = (rl1 : Int) → rl1 ≤ 1 → (rl1 = 0 → ru1 = q_us2 115) → (∀ x, x < 4 → I1 185 x = ru1 x) → (∀ x, x < 5 * R1 → I1 187 x = to1 x) → q_vk 115 4 ru1 → q_tvk R1 to1 → rl1 + R1 + f = 10 → x_fr q_fOm I0 I1 → (∀ e, (if n ≤ j then q_fin n R1 ru1 to1 else q_cls b n f (q_s b n (j + 1)) rl1 R1 ru1 to1) = .inl e → e ≤ n → ∀ I', x_fr q_fOm I0 I' → I' 179 11 = (e : Int) → Q [] (I', L, lp, 180)) → (∀ R' ru' to', (if n ≤ j then q_fin n R1 ru1 to1 else q_cls b n f (q_s b n (j + 1)) rl1 R1 ru1 to1) = .inr (R', ru', to') → ∀ I', x_fr q_fOm I0 I' → I' 179 11 = -1 → I' 179 25 = (R' : Int) → (∀ x, x < 4 → I' 185 x = ru' x) → (∀ x, x < 5 * R' → I' 187 x = to' x) → Q [] (I', L, lp, 180)) → (x_rg (I1 179 11)) ∧ ((¬ (I1 179 11) = (-1) → x_S g (k + 11 + 2) 220 Q 29 [x_r 179, x_i 0] [] (I1, L, lp, 180)) ∧ ((I1 179 11) = (-1) → (q_lk0 I1 180) ∧ ((x_rg (q_lkV I1 180)) ∧ ((¬ (q_lkV I1 180) = 59 → x_S g (k + 11 + 2) 220 Q 29 [x_r 179, x_i 0] [] ((x_u I1 179 10 (q_lkA I1 180)), L, lp, 180)) ∧ ((q_lkV I1 180) = 59 → x_S g (k + 11 + 2) 220 Q 29 [x_r 179, x_i 1] [] ((x_u (x_u I1 179 10 (q_lkA I1 180)) 179 10 ((q_lkA I1 180) + 1)), L, lp, 180)))))) := fun I1 j rl1 R1 ru1 to1 M1 j10 hj hjs hje j11 j25 rR j27 rl' rru r185 r187 rv rt rs f1 a1 a2 => by
      obtain ⟨m0, mA, mV, mi, mt⟩ := q_OL M1 j10 hj
      rw [hjs] at mA mV mi mt
      rw [j11, mA, mV]
      refine ⟨by decide, fun h => absurd rfl h, fun _ => ⟨m0, ⟨by omega, by omega⟩, fun c => ?_, fun c => ?_⟩⟩
      · have hnj : n ≤ j := by omega
        have ejn : j = n := by omega
        rw [if_pos hnj] at a1 a2
        have M2 : q_OM (x_u I1 179 10 (j : Int)) b n := q_OM_fr M1 (x_fr_u (x_fr_refl _ _) rfl)
        obtain ⟨p0, pA, pV, pi, pt⟩ := q_OL M2 (x_u_same _ _ _ _) hj
        rw [hjs] at pA pV pi pt
        have ev : q_tk b n j = -1 := if_neg (by omega)
        have k11 : x_u I1 179 10 (j : Int) 179 11 = -1 := (x_u_ne _ _ (by omega)).trans j11
        refine v_mOffice_L29 (k := k + 11) ⟨by decide, fun _ => ?_, fun h => absurd rfl h⟩
        rw [k11, pA, pV, ev]
        refine ⟨by decide, fun h => absurd rfl h, fun _ => ⟨p0, by decide, fun h => absurd rfl h, fun _ => ?_⟩⟩
        have M3 : x_fr q_fOm I0 (x_u (x_u I1 179 10 (j : Int)) 179 10 (j : Int)) := x_fr_u (x_fr_u f1 rfl) rfl
        refine x_le (show 1 ≤ k + 11 by omega) (m_whole (k := 0) (R := R1) (to := to1) rR j25 r187 rt ⟨_, rfl, ?_⟩)
        by_cases cw : R1 < 2 ∨ q_tw1 to1 R1 0 = true
        · rw [if_pos cw]
          refine ⟨by decide, fun h => absurd rfl h, fun _ => ?_⟩
          refine x_le (show 1 ≤ k + 11 by omega) (s_failsE (k := 0) j11 ⟨_, rfl, ?_⟩)
          refine a1 n (by unfold q_fin; rw [if_pos cw]) (Nat.le_refl _) _ (x_fr_u M3 rfl) ?_
          rw [x_u_same, x_u_same, ejn]
        · rw [if_neg cw]
          refine ⟨by decide, fun _ => ?_, fun h => absurd h (by decide)⟩
          exact a2 R1 ru1 to1 (by unfold q_fin; rw [if_neg cw]) _ M3 j11 j25 r185 r187
      · have hjn : j < n := q_tk_lt (b := b) (by omega)
        rw [if_neg (by omega)] at a1 a2
        have ej : (j : Int) + 1 = ((j + 1 : Nat) : Int) := by omega
        exact m_of_L I0 f (j + 1) rl1 R1 ru1 to1 _ (q_OM_fr M1 (x_fr_u (x_fr_u (x_fr_refl _ _) rfl) rfl)) ((x_u_same _ _ _ _).trans ej) (by omega) j11 j25 rR j27 rl' rru r185 r187 rv rt rs (x_fr_u (x_fr_u f1 rfl) rfl) a1 a2
    -- a sign that no clause knows
    have unk : ∀ (I1 : Nat → Nat → Int) (e : Nat), q_OM I1 b n → I1 179 10 = (e : Int) → e < n → q_s b n e = e → ¬ q_tk b n e = 59 → I1 179 11 = -1 → (∀ I', x_fr q_fOm I1 I' → I' 179 11 = (e : Int) → Q [] (I', L, lp, 180)) → (x_rg (I1 179 11)) ∧ ((¬ (I1 179 11) = (-1) → x_S g (k + 11 + 2) 220 Q 29 [x_r 179, x_i 0] [] (I1, L, lp, 180)) ∧ ((I1 179 11) = (-1) → (q_lk0 I1 180) ∧ ((x_rg (q_lkV I1 180)) ∧ ((¬ (q_lkV I1 180) = 59 → x_S g (k + 11 + 2) 220 Q 29 [x_r 179, x_i 0] [] ((x_u I1 179 10 (q_lkA I1 180)), L, lp, 180)) ∧ ((q_lkV I1 180) = 59 → x_S g (k + 11 + 2) 220 Q 29 [x_r 179, x_i 1] [] ((x_u (x_u I1 179 10 (q_lkA I1 180)) 179 10 ((q_lkA I1 180) + 1)), L, lp, 180)))))) := fun I1 e M1 j10 hj hjs hje j11 hq => by
      obtain ⟨m0, mA, mV, mi, mt⟩ := q_OL M1 j10 (by omega)
      rw [hjs] at mA mV mi mt
      rw [j11, mA, mV]
      refine ⟨by decide, fun h => absurd rfl h, fun _ => ⟨m0, ⟨by omega, by omega⟩, fun c => ?_, fun c => absurd c hje⟩⟩
      have M2 : q_OM (x_u I1 179 10 (e : Int)) b n := q_OM_fr M1 (x_fr_u (x_fr_refl _ _) rfl)
      obtain ⟨p0, pA, pV, pi, pt⟩ := q_OL M2 (x_u_same _ _ _ _) (show e ≤ n by omega)
      rw [hjs] at pA pV pi pt
      have ev : q_tk b n e = b e := if_pos hj
      have hbe := M1.2.2.2.2.1 e hj
      have k11 : x_u I1 179 10 (e : Int) 179 11 = -1 := (x_u_ne _ _ (by omega)).trans j11
      refine v_mOffice_L29 (k := k + 11) ⟨by decide, fun _ => ?_, fun h => absurd rfl h⟩
      rw [k11, pA, pV]
      refine ⟨by decide, fun h => absurd rfl h, fun _ => ⟨p0, ⟨by omega, by omega⟩, fun _ => ?_, fun h => by omega⟩⟩
      refine x_le (show 1 ≤ k + 11 by omega) (s_failsE (k := 0) j11 ⟨_, rfl, ?_⟩)
      exact hq _ (x_fr_u (x_fr_u (x_fr_u (x_fr_refl _ _) rfl) rfl) rfl) (by rw [x_u_same, x_u_same])
    refine v_mOffice_L29 (k := k + 11) ⟨by decide, fun h => absurd h (by decide), fun _ => ?_⟩
    rw [h11]
    refine ⟨by decide, fun h => absurd rfl h, fun _ => ?_⟩
    refine v_mClause (k := k + 9) ?_
    rw [lA, lV, e25, e27]
    -- no clause begins here
    have rest : ¬ (q_tk b n (q_s b n a) = 115 ∧ rl = 0) → ¬ (q_tk b n (q_s b n a) = 100 ∧ R < 8) → x_X g (k + 9) 195 [x_r 179] ((x_u I 179 10 ((q_s b n a : Nat) : Int)), L, lp, 180) (fun rv w4 => ∃ z3, rv = [x_i z3] ∧ ((fun (rv : List x_V) (w18 : x_W) => rv = [] ∧ (x_rg (w18.1 179 11)) ∧ ((¬ (w18.1 179 11) = (-1) → x_S g (k + 11 + 2) 220 Q 29 [x_r 179, x_i 0] [] w18) ∧ ((w18.1 179 11) = (-1) → (q_lk0 w18.1 w18.2.2.2) ∧ ((x_rg (q_lkV w18.1 w18.2.2.2)) ∧ ((¬ (q_lkV w18.1 w18.2.2.2) = 59 → x_S g (k + 11 + 2) 220 Q 29 [x_r 179, x_i 0] [] ((x_u w18.1 179 10 (q_lkA w18.1 w18.2.2.2)), w18.2.1, w18.2.2.1, w18.2.2.2)) ∧ ((q_lkV w18.1 w18.2.2.2) = 59 → x_S g (k + 11 + 2) 220 Q 29 [x_r 179, x_i 1] [] ((x_u (x_u w18.1 179 10 (q_lkA w18.1 w18.2.2.2)) 179 10 ((q_lkA w18.1 w18.2.2.2) + 1)), w18.2.1, w18.2.2.1, w18.2.2.2))))))) [] w4)) := fun c1 c2 => by
      rw [if_neg c1, if_neg c2] at q1
      refine x_le (show 1 ≤ k + 9 by omega) (s_failsE (k := 0) h11 ⟨_, rfl, rfl, ?_⟩)
      have e11 : x_u (x_u I 179 10 ((q_s b n a : Nat) : Int)) 179 11 (x_u I 179 10 ((q_s b n a : Nat) : Int) 179 10) 179 11 = ((q_s b n a : Nat) : Int) := by rw [x_u_same, x_u_same]
      dsimp only
      rw [e11]
      exact ⟨⟨by omega, by omega⟩, fun _ => bad _ _ e11 li (q1 _ rfl li _ (x_fr_u (x_fr_u hf rfl) rfl) e11), fun h => by omega⟩
    have ei : ((q_s b n a : Nat) : Int) + 1 = ((q_s b n a + 1 : Nat) : Int) := by omega
    refine ⟨l0, ⟨by omega, by omega⟩, fun c1 => ⟨fun c2 => rest (by omega) (by omega), fun c2 => ⟨⟨by omega, by omega⟩, fun c3 => rest (by omega) (by omega), fun c3 => ?_⟩⟩, fun c1 => ⟨⟨by omega, by omega⟩, fun c2 => ?_, fun c2 => ⟨fun c3 => rest (by omega) (by omega), fun c3 => by omega⟩⟩⟩
    · have hin : q_s b n a < n := q_tk_lt (b := b) (by omega)
      rw [if_neg (by omega), if_pos (by omega)] at q1 q2
      rw [c2, show 5 * ((R : Int) + 1 - 1) = 5 * (R : Int) by omega]
      have M1 : q_OM (x_u (x_u (x_u I 179 10 ((q_s b n a : Nat) : Int)) 179 10 (((q_s b n a : Nat) : Int) + 1)) 179 25 ((R : Int) + 1)) b n := q_OM_fr hM (x_fr_u (x_fr_u (x_fr_u (x_fr_refl _ _) rfl) rfl) rfl)
      have fI : x_fr q_fOm I0 (x_u (x_u (x_u I 179 10 ((q_s b n a : Nat) : Int)) 179 10 (((q_s b n a : Nat) : Int) + 1)) 179 25 ((R : Int) + 1)) := x_fr_u (x_fr_u (x_fr_u hf rfl) rfl) rfl
      refine m_itemsD (k := k) (r := R) (by omega) M1 (((x_u_ne _ _ (by omega)).trans (x_u_same _ _ _ _)).trans ei) (show q_s b n a + 1 ≤ n by omega) h11 (fun e he hen I1 g1 e11 => ⟨rfl, rfl, ?_⟩) (fun j V hj hjn I1 g1 e11 e10 hjs h7 => ⟨rfl, rfl, ?_⟩) (fun e he hen h59 I1 g1 e11 e10 hes => ⟨rfl, rfl, ?_⟩)
      · rw [he] at q1
        dsimp only
        rw [e11]
        exact ⟨⟨by omega, by omega⟩, fun _ => bad _ _ e11 hen (q1 _ rfl hen _ (x_fr_trans fI (q_fDr (by omega) g1)) e11), fun h => by omega⟩
      · rw [hj] at q1 q2
        have k1 := q_its_ok 6 _ 0 (q_us2 100) j V q_us_vk.2 (q_s_le (show q_s b n a + 1 ≤ n by omega)) hj
        have g2 := q_fDr (show R < 8 by omega) g1
        refine aft I1 j rl (R + 1) ru (q_pt R to V) (q_OM_fr M1 g2) e10 hjn hjs k1.2.1 e11 ((g1 _ _ rfl).trans ((x_u_same _ _ _ _).trans (by omega))) (by omega) ((g1 _ _ rfl).trans e27) hrl hru (fun x hx => (g1 185 x rfl).trans (e185 x hx)) (fun x hx => ?_) hv (q_pt_k ht k1.2.2) (by omega) (x_fr_trans fI g2) q1 q2
        unfold q_pt
        by_cases c : 5 * R ≤ x ∧ x < 5 * R + 5
        · rw [if_pos c, ← h7 (x - 5 * R) (by omega), show 5 * R + (x - 5 * R) = x by omega]
        · rw [if_neg c, ← e187 x (by omega)]
          refine (g1 187 x ?_)
          cases e : x_mem [(179, 10, 12), (187, 5 * R, 5 * R + 5)] 187 x with
          | false => rfl
          | true =>
            obtain ⟨t, m1, m2, m3, m4⟩ := (x_mem_iff _ 187 x).mp e
            rcases List.mem_cons.mp m1 with rfl | m1
            · dsimp only at m2; omega
            · rcases List.mem_cons.mp m1 with rfl | m1
              · dsimp only at m3 m4; omega
              · cases m1
      · rw [he] at q1
        have g2 := q_fDr (show R < 8 by omega) g1
        exact unk I1 e (q_OM_fr M1 g2) e10 hen hes h59 e11 (fun I' f' h' => q1 _ rfl (by omega) _ (x_fr_trans fI (x_fr_trans g2 f')) h')
    · have hin : q_s b n a < n := q_tk_lt (b := b) (by omega)
      have er : rl = 0 := by omega
      subst er
      rw [if_pos ⟨c1, rfl⟩] at q1 q2
      have eru := hru rfl
      subst eru
      rw [c1]
      have M1 : q_OM (x_u (x_u (x_u I 179 10 ((q_s b n a : Nat) : Int)) 179 10 (((q_s b n a : Nat) : Int) + 1)) 179 27 1) b n := q_OM_fr hM (x_fr_u (x_fr_u (x_fr_u (x_fr_refl _ _) rfl) rfl) rfl)
      have fI : x_fr q_fOm I0 (x_u (x_u (x_u I 179 10 ((q_s b n a : Nat) : Int)) 179 10 (((q_s b n a : Nat) : Int) + 1)) 179 27 1) := x_fr_u (x_fr_u (x_fr_u hf rfl) rfl) rfl
      refine m_itemsS (k := k) M1 (((x_u_ne _ _ (by omega)).trans (x_u_same _ _ _ _)).trans ei) (show q_s b n a + 1 ≤ n by omega) h11 (fun e he hen I1 g1 e11 => ⟨rfl, rfl, ?_⟩) (fun j V hj hjn I1 g1 e11 e10 hjs h7 => ⟨rfl, rfl, ?_⟩) (fun e he hen h59 I1 g1 e11 e10 hes => ⟨rfl, rfl, ?_⟩)
      · rw [he] at q1
        dsimp only
        rw [e11]
        exact ⟨⟨by omega, by omega⟩, fun _ => bad _ _ e11 hen (q1 _ rfl hen _ (x_fr_trans fI (x_fr_mono g1 rfl)) e11), fun h => by omega⟩
      · rw [hj] at q1 q2
        have k1 := q_its_ok 5 _ 0 (q_us2 115) j V q_us_vk.1 (q_s_le (show q_s b n a + 1 ≤ n by omega)) hj
        have g2 : x_fr q_fOm _ I1 := x_fr_mono g1 rfl
        exact aft I1 j 1 R V to (q_OM_fr M1 g2) e10 hjn hjs k1.2.1 e11 ((g1 _ _ rfl).trans e25) hR ((g1 _ _ rfl).trans (x_u_same _ _ _ _)) (by omega) (fun h => absurd h (by decide)) h7 (fun x hx => (g1 187 x rfl).trans (e187 x hx)) k1.2.2 ht (by omega) (x_fr_trans fI g2) q1 q2
      · rw [he] at q1
        have g2 : x_fr q_fOm _ I1 := x_fr_mono g1 rfl
        exact unk I1 e (q_OM_fr M1 g2) e10 hen hes h59 e11 (fun I' f' h' => q1 _ rfl (by omega) _ (x_fr_trans fI (x_fr_trans g2 f')) h')
