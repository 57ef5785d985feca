/-! sightings: the calls of the class; the reference -/
def q_es1 (es : Nat → Int) (r : Nat) (t h : Int) : Nat → Int := if h = 0 then q_up es r (max (es r) (t + 1)) else es
def q_la1 (la : Nat → Int) (r : Nat) (t h : Int) : Nat → Int := if h = 0 then la else q_up la r (min (la r) t)
abbrev q_fN : List (Nat × Nat × Nat) := [(162, 6, 7), (163, 0, 8), (164, 0, 8)]
theorem c_seen {g : x_G} {k : Nat} {Q : x_Q} {I L : Nat → Nat → Int} {lp tp R : Nat} (hR : R ≤ 8) (e3 : I 14 3 = (R : Int)) {es la : Nat → Int} (hs : q_Sc I es la) {n : Nat} (hn : I 162 6 = (n : Int)) (hn10 : n ≤ 10) {r t h : Int} (hr : x_rg r) (ht : x_rg t) (hh : h = 0 ∨ h = 1)
    (q1 : 0 ≤ r ∧ r < (R : Int) → 0 ≤ t ∧ t ≤ 999 → n < 10 → ∀ I', x_fr q_fN I I' → I' 162 6 = ((n + 1 : Nat) : Int) → q_Sc I' (q_es1 es r.toNat t h) (q_la1 la r.toNat t h) → Q [x_i ((n : Int) + 1)] (I', L, lp, tp)) (q0 : ¬ ((0 ≤ r ∧ r < (R : Int)) ∧ (0 ≤ t ∧ t ≤ 999) ∧ n < 10) → Q [x_i (-1)] (I, L, lp, tp)) : x_X g (k + 5) 167 [x_r 1, x_i r, x_i t, x_i h] (I, L, lp, tp) Q := by
  refine v_seen (k := k + 3) ?_
  rw [e3]
  refine ⟨hr, fun c => q0 (by omega), fun c1 => ⟨⟨by omega, by omega⟩, fun c => q0 (by omega), fun c2 => ⟨ht, fun c => q0 (by omega), fun c3 => ⟨fun c => q0 (by omega), fun c4 => ?_⟩⟩⟩⟩
  obtain ⟨a, rfl⟩ := Int.eq_ofNat_of_zero_le c1
  obtain ⟨s1, s2, s3, s4⟩ := hs a (by omega)
  refine x_le (show 1 ≤ k + 3 by omega) (v_sAdd (k := 0) ?_)
  rw [hn, show ((a : Int)).toNat = a by omega, s1, s2]
  refine ⟨⟨by omega, by omega⟩, fun c => ⟨0, rfl, by decide, fun _ => q0 (by omega), fun h => absurd rfl h⟩, fun c5 => ⟨hr, fun c => by omega, fun _ => ⟨fun _ => ⟨by rcases hh with h | h <;> rw [h] <;> decide, fun h0 => ⟨⟨by omega, by omega⟩, ⟨by omega, by omega⟩, ⟨by omega, by omega⟩, 1, rfl, by decide, fun h => absurd h (by decide), fun _ => ?_⟩, fun h0 => ⟨⟨by omega, by omega⟩, ⟨by omega, by omega⟩, ht, 1, rfl, by decide, fun h => absurd h (by decide), fun _ => ?_⟩⟩, fun c => by omega⟩⟩⟩
  · refine q1 ⟨c1, c2⟩ ⟨c3, c4⟩ (by omega) _ (x_fr_u (x_fr_u (k := a) (x_fr_refl _ _) (x_mem2 (b := 0) (lo := 0) (hi := 0) (x_mem1 ⟨by omega, by omega⟩))) rfl) rfl (fun x hx => ?_)
    obtain ⟨t1, t2, t3, t4⟩ := hs x hx
    rw [show q_es1 es ((a : Int)).toNat t h = q_up es a (max (es a) (t + 1)) by unfold q_es1; rw [if_pos h0, show ((a : Int)).toNat = a by omega], show q_la1 la ((a : Int)).toNat t h = la by unfold q_la1; rw [if_pos h0]]
    refine ⟨?_, t2, ?_, t4⟩
    · show x_u I 163 a (max (es a) (t + 1)) 163 x = if x = a then max (es a) (t + 1) else es x
      rw [x_u_eq]
      by_cases e : x = a
      · rw [if_pos ⟨rfl, e⟩, if_pos e]
      · rw [if_neg (fun h => e h.2), if_neg e]; exact t1
    · unfold q_up
      split <;> omega
  · refine q1 ⟨c1, c2⟩ ⟨c3, c4⟩ (by omega) _ (x_fr_u (x_fr_u (k := a) (x_fr_refl _ _) (x_mem2 (b := 0) (lo := 0) (hi := 0) (x_mem2 (b := 0) (lo := 0) (hi := 0) (x_mem1 ⟨by omega, by omega⟩)))) rfl) rfl (fun x hx => ?_)
    obtain ⟨t1, t2, t3, t4⟩ := hs x hx
    rw [show q_es1 es ((a : Int)).toNat t h = es by unfold q_es1; rw [if_neg h0], show q_la1 la ((a : Int)).toNat t h = q_up la a (min (la a) t) by unfold q_la1; rw [if_neg h0, show ((a : Int)).toNat = a by omega]]
    refine ⟨t1, ?_, t3, ?_⟩
    · show x_u I 164 a (min (la a) t) 164 x = if x = a then min (la a) t else la x
      rw [x_u_eq]
      by_cases e : x = a
      · rw [if_pos ⟨rfl, e⟩, if_pos e]
      · rw [if_neg (fun h => e h.2), if_neg e]; exact t2
    · unfold q_up
      split <;> omega
theorem c_fits {g : x_G} {k : Nat} {Q : x_Q} {I L : Nat → Nat → Int} {lp tp : Nat} {z : q_Z} (hZ : q_Zk z) (hc : q_ZC I lp z) {es la : Nat → Int} (hs : q_Sc I es la) (h6 : q_Sf I) {i : Int} (hi : x_rg i) (hq : ∀ I', x_fr q_fB3 I I' → Q [x_i (q_aFits z es la i)] (I', L, lp, tp)) : x_X g (k + 80) 168 [x_r 1, x_i i] (I, L, lp, tp) Q := by
  have hR := q_ZR hZ
  unfold q_aFits at hq
  have no : ¬ (¬ q_yR (q_zy z) = 0 ∧ -1 ≤ i) → Q [x_i (-1)] (I, L, lp, tp) := fun h => by have := hq I (x_fr_refl _ _); rw [if_neg h] at this; exact this
  refine v_fits (k := k + 78) ?_
  rw [q_ZC_R hc]
  refine ⟨⟨by omega, by omega⟩, fun c => ⟨hi, fun c1 => ⟨fun c2 => ?_, fun c2 => ?_⟩, fun c1 => no (by omega)⟩, fun c => no (by omega)⟩
  · rw [if_pos ⟨by omega, c1⟩, if_neg c2] at hq
    obtain ⟨n, rfl⟩ := Int.eq_ofNat_of_zero_le (show 0 ≤ i by omega)
    rw [show ((n : Int)).toNat = n by omega] at hq
    exact x_le (show 70 ≤ k + 78 by omega) (s_fitRow (k := 0) hZ (by omega) hc hs h6 (by have := hi.2; omega) (fun I' f' => ⟨_, rfl, hq I' f'⟩))
  · rw [if_pos ⟨by omega, c1⟩, if_pos c2] at hq
    exact x_le (show 60 ≤ k + 78 by omega) (s_fitting (k := 0) hZ hc hs h6 (fun I' f' => ⟨_, rfl, hq I' f'⟩))
theorem c_second {g : x_G} {k : Nat} {Q : x_Q} {I L : Nat → Nat → Int} {lp tp : Nat} {z : q_Z} (hZ : q_Zk z) (hc : q_ZC I lp z) {es la : Nat → Int} (hs : q_Sc I es la) (h6 : q_Sf I) (hq : ∀ I', x_fr q_fB3 I I' → Q [x_i (q_aSecond z es la)] (I', L, lp, tp)) : x_X g (k + 80) 169 [x_r 1] (I, L, lp, tp) Q := by
  have hR := q_ZR hZ
  have hl := q_fa_len hZ es la
  unfold q_aSecond at hq
  refine v_second (k := k + 78) ?_
  rw [q_ZC_R hc]
  refine ⟨⟨by omega, by omega⟩, fun c => ?_, fun c => by have := hq I (x_fr_refl _ _); rw [if_neg (by omega)] at this; exact this⟩
  rw [if_pos (by omega)] at hq
  refine x_le (show 60 ≤ k + 78 by omega) (s_fitting (k := 0) hZ hc hs h6 (fun I' f' => ⟨_, rfl, ⟨by omega, by omega⟩, fun c1 => ?_, fun c1 => ?_⟩))
  · have := hq I' f'; rw [if_neg (by omega)] at this; exact this
  · have := hq I' f'; rw [if_pos (by omega)] at this; exact this
theorem c_ask {g : x_G} {k : Nat} {Q : x_Q} {I L : Nat → Nat → Int} {lp tp : Nat} {z : q_Z} (hZ : q_Zk z) (hc : q_ZC I lp z) {es la : Nat → Int} (hs : q_Sc I es la) (h6 : q_Sf I) {t : Int} (ht : x_rg t) (hq : ∀ I', x_fr q_fB3 I I' → Q [x_i (q_aAsk z es la t)] (I', L, lp, tp)) : x_X g (k + 80) 170 [x_r 1, x_i t] (I, L, lp, tp) Q := by
  have hR := q_ZR hZ
  unfold q_aAsk at hq
  have no : ¬ (¬ q_yR (q_zy z) = 0 ∧ (0 ≤ t ∧ t ≤ 999)) → Q [x_i (-1)] (I, L, lp, tp) := fun h => by have := hq I (x_fr_refl _ _); rw [if_neg h] at this; exact this
  refine v_ask (k := k + 78) ?_
  rw [q_ZC_R hc]
  refine ⟨⟨by omega, by omega⟩, fun c => ⟨ht, fun c1 => no (by omega), fun c1 => ⟨fun c2 => no (by omega), fun c2 => ?_⟩⟩, fun c => no (by omega)⟩
  rw [if_pos ⟨by omega, c1, c2⟩] at hq
  exact x_le (show 60 ≤ k + 78 by omega) (s_evenest (k := 0) hZ (by omega) hc hs h6 ⟨c1, c2⟩ (fun I' f' => ⟨_, rfl, hq I' f'⟩))
/-- the reference's sightings -/
def q_Sm (I : Nat → Nat → Int) (es la : Nat → Int) (n : Nat) : Prop := I 179 55 = (n : Int) ∧ n ≤ 10 ∧ (∀ k, k < n → (0 ≤ I 197 k ∧ I 197 k < 8) ∧ (0 ≤ I 198 k ∧ I 198 k ≤ 999) ∧ (I 201 k = 0 ∨ I 201 k = 1)) ∧ ∀ r : Nat, r < 8 → ∀ T, 0 ≤ T → T ≤ 1000000 → ((es r ≤ T ∧ T ≤ la r) ↔ ∀ k, k < n → I 197 k = (r : Int) → (T ≤ I 198 k ↔ I 201 k = 1))
theorem q_Sm_eq {I I' : Nat → Nat → Int} {es la : Nat → Int} {n : Nat} (h : q_Sm I es la n) (h1 : I' 179 55 = I 179 55) (h2 : ∀ k, I' 197 k = I 197 k) (h3 : ∀ k, I' 198 k = I 198 k) (h4 : ∀ k, I' 201 k = I 201 k) : q_Sm I' es la n := by
  obtain ⟨s1, s2, s3, s4⟩ := h
  refine ⟨h1.trans s1, s2, fun k hk => ?_, fun r hr T t0 t1 => ?_⟩
  · rw [h2, h3, h4]; exact s3 k hk
  · rw [s4 r hr T t0 t1]
    constructor
    · intro h k hk; rw [h2, h3, h4]; exact h k hk
    · intro h k hk; have := h k hk; rw [h2, h3, h4] at this; exact this
theorem m_isSeen {g : x_G} {k : Nat} {Q : x_Q} {I L : Nat → Nat → Int} {lp tp : Nat} {es la : Nat → Int} {n : Nat} (hs : q_Sm I es la n) {r : Nat} (hr : r < 8) {T : Int} (hT : 0 ≤ T ∧ T ≤ 1000000) (hq : Q [x_i (if es r ≤ T ∧ T ≤ la r then 1 else 0)] (I, L, lp, tp)) : x_X g (k + 1) 260 [x_r 179, x_i (r : Int), x_i T] (I, L, lp, tp) Q := by
  obtain ⟨s1, s2, s3, s4⟩ := hs
  have s5 := s4 r hr T hT.1 hT.2
  have loop : ∀ (m i : Nat), i + m = n → (∀ k, k < i → I 197 k = (r : Int) → (T ≤ I 198 k ↔ I 201 k = 1)) → x_S g (k + 1) 260 Q 2 [x_r 179, x_i (r : Int), x_i T, x_i (i : Int)] [] (I, L, lp, tp) := by
    intro m
    induction m with
    | zero =>
      intro i hm h
      refine v_isSeen_L2 ?_
      rw [s1]
      refine ⟨⟨by omega, by omega⟩, ⟨by omega, by omega⟩, fun _ => ?_, fun q => by omega⟩
      rw [if_pos (s5.mpr (fun k hk => h k (by omega)))] at hq
      exact hq
    | succ m ih =>
      intro i hm h
      obtain ⟨t1, t2, t3⟩ := s3 i (by omega)
      have no : I 197 i = (r : Int) → ¬ (T ≤ I 198 i ↔ I 201 i = 1) → Q [x_i 0] (I, L, lp, tp) := fun e c => by
        rw [if_neg (fun h => c (s5.mp h i (by omega) e))] at hq
        exact hq
      have go : (I 197 i = (r : Int) → (T ≤ I 198 i ↔ I 201 i = 1)) → x_S g (k + 1) 260 Q 2 [x_r 179, x_i (r : Int), x_i T, x_i ((i : Int) + 1)] [] (I, L, lp, tp) := fun c => ih (i + 1) (by omega) (fun x hx => by
        by_cases e : x = i
        · rw [e]; exact c
        · exact h x (by omega))
      refine v_isSeen_L2 ?_
      rw [s1, show ((i : Int)).toNat = i by omega]
      refine ⟨⟨by omega, by omega⟩, ⟨by omega, by omega⟩, fun q => by omega, fun _ => ⟨⟨by omega, by omega⟩, ⟨by omega, by omega⟩, ⟨by omega, by omega⟩, fun c => go (fun e => absurd e c), fun c => ⟨⟨by omega, by omega⟩, ⟨by omega, by omega⟩, fun c2 => ⟨⟨by omega, by omega⟩, fun c3 => go (fun _ => by omega), fun c3 => no c (by omega)⟩, fun c2 => ⟨⟨by omega, by omega⟩, fun c3 => go (fun _ => by omega), fun c3 => no c (by omega)⟩⟩⟩⟩
  exact v_isSeen (loop n 0 (Nat.zero_add _) (fun k hk => by omega))
