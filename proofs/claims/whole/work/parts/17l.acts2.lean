/-! acts: wheels, fill, move -/
theorem q_up_ne {N : Nat → Int} {k x : Nat} {v : Int} (h : x ≠ k) : q_up N k v x = N x := if_neg h
theorem q_up_at {N : Nat → Int} {k : Nat} {v : Int} : q_up N k v k = v := if_pos rfl
theorem q_St_f {I : Nat → Nat → Int} {N : Nat → Int} (h : q_St I 18 N) (k : Nat) (hk : k = 3 ∨ k = 4 ∨ k = 5) (v : Int) : q_St (x_u I 18 k v) 18 (q_up N (21 + k) v) := by
  obtain ⟨a1, ⟨d, d1, d2, d3⟩, a3, a4, a5, a6, a7⟩ := h
  refine ⟨fun r hr => ⟨?_, ?_⟩, ⟨d, d1, ?_, fun r hr => ?_⟩, ?_, ?_, ?_, ?_, ?_⟩
  · rw [q_up_ne (by omega), x_u_ne _ _ (by omega)]; exact (a1 r hr).1
  · rw [q_up_ne (by omega), x_u_ne _ _ (by omega)]; exact (a1 r hr).2
  · rw [x_u_ne _ _ (by omega)]; exact d2
  · rw [q_up_ne (by omega)]; exact d3 r hr
  · by_cases e : k = 3
    · subst e; exact (x_u_same _ _ _ _).trans q_up_at.symm
    · rw [q_up_ne (by omega), x_u_ne _ _ (by omega)]; exact a3
  · by_cases e : k = 4
    · subst e; exact (x_u_same _ _ _ _).trans q_up_at.symm
    · rw [q_up_ne (by omega), x_u_ne _ _ (by omega)]; exact a4
  · by_cases e : k = 5
    · subst e; exact (x_u_same _ _ _ _).trans q_up_at.symm
    · rw [q_up_ne (by omega), x_u_ne _ _ (by omega)]; exact a5
  · rw [q_up_ne (by omega), x_u_ne _ _ (by omega)]; exact a6
  · rw [q_up_ne (by omega), x_u_ne _ _ (by omega)]; exact a7
theorem q_St_w {I : Nat → Nat → Int} {N : Nat → Int} (h : q_St I 18 N) {r : Nat} (hr : r < 8) (v : Int) : q_St (x_u I 19 r v) 18 (q_up N r v) := by
  obtain ⟨a1, ⟨d, d1, d2, d3⟩, a3, a4, a5, a6, a7⟩ := h
  refine ⟨fun x hx => ⟨?_, ?_⟩, ⟨d, d1, ?_, fun r hr => ?_⟩, ?_, ?_, ?_, ?_, ?_⟩
  · by_cases e : x = r
    · subst e; exact (x_u_same _ _ _ _).trans q_up_at.symm
    · rw [q_up_ne e, x_u_ne _ _ (by omega)]; exact (a1 x hx).1
  · rw [q_up_ne (by omega), x_u_ne _ _ (by omega)]; exact (a1 x hx).2
  · rw [x_u_ne _ _ (by omega)]; exact d2
  · rw [q_up_ne (by omega)]; exact d3 _ hr
  · rw [q_up_ne (by omega), x_u_ne _ _ (by omega)]; exact a3
  · rw [q_up_ne (by omega), x_u_ne _ _ (by omega)]; exact a4
  · rw [q_up_ne (by omega), x_u_ne _ _ (by omega)]; exact a5
  · rw [q_up_ne (by omega), x_u_ne _ _ (by omega)]; exact a6
  · rw [q_up_ne (by omega), x_u_ne _ _ (by omega)]; exact a7
theorem c_wheels {g : x_G} {k : Nat} {Q : x_Q} {I L : Nat → Nat → Int} {lp tp na R : Nat} {H : Nat → Nat → Int} {N : Nat → Int} (hR : R ≤ 8) (e3 : I 14 3 = (R : Int)) (hN : q_St I 18 N) (hA : q_Ac I H na) (hp : ¬ R = 0 → 1 ≤ N 24 ∧ N 24 ≤ 5) {o : Int} (ho : o = 0 ∨ o = 1) (q0 : R = 0 ∨ N 24 = (if o = 0 then 5 else 1) → Q [x_i (-1)] (I, L, lp, tp)) (q1 : ¬ R = 0 → ¬ N 24 = (if o = 0 then 5 else 1) → ∀ I', x_fr q_fA1 I I' → I' 161 1 = 0 → q_St I' 18 (q_up N 24 (N 24 + (if o = 0 then 1 else -1))) → q_Ac I' (q_h1 H na N) (min 40 (na + 1)) → Q [x_i (N 24 + (if o = 0 then 1 else -1))] (I', L, lp, tp)) : x_X g (k + 6) 134 [x_r 1, x_i o] (I, L, lp, tp) Q := by
  have e18 : I 18 3 = N 24 := hN.2.2.1
  have act : ∀ v : Int, ¬ R = 0 → ¬ N 24 = (if o = 0 then 5 else 1) → v = N 24 + (if o = 0 then 1 else -1) → x_X g (k + 4) 144 [x_r 1] (I, L, lp, tp) (fun rv w6 => rv = [] ∧ Q [x_i v] (x_u w6.1 18 3 v, w6.2.1, w6.2.2.1, w6.2.2.2)) := fun v h0 h1 hv => by
    subst hv
    exact s_beginAct hN hA (fun I1 f1 e1 hA1 => ⟨rfl, q1 h0 h1 _ (x_fr_u (q_fA_1 f1) rfl) e1 (q_St_f (q_St_A hN f1) 3 (Or.inl rfl) _) (q_Ac_fr hA1 rfl rfl (fun a k h1 h2 => x_u_ne _ _ (by omega)))⟩)
  refine v_wheels (k := k + 4) ?_
  rw [e3, e18]
  rcases ho with rfl | rfl
  · rw [if_pos rfl] at q0 act
    rw [if_pos rfl] at act
    refine ⟨by decide, fun _ => ⟨⟨by omega, by omega⟩, fun c => ?_, fun c => q0 (by omega)⟩, fun h => absurd rfl h⟩
    have hp := hp (by omega)
    exact ⟨⟨by omega, by omega⟩, fun c1 => by omega, fun c1 => ⟨fun c2 => act _ (by omega) (by omega) rfl, fun c2 => q0 (by omega)⟩⟩
  · rw [if_neg (by decide)] at q0 act
    rw [if_neg (by decide)] at act
    refine ⟨by decide, fun h => absurd h (by decide), fun _ => ⟨⟨by omega, by omega⟩, fun c => ?_, fun c => q0 (by omega)⟩⟩
    have hp := hp (by omega)
    exact ⟨⟨by omega, by omega⟩, fun c1 => q0 (by omega), fun c1 => ⟨fun c2 => act _ (by omega) (by omega) rfl, fun c2 => by omega⟩⟩
theorem q_upN {I : Nat → Nat → Int} {k : Nat} {v : Int} (x : Nat) : x_u I 190 k v 190 x = q_up (I 190) k v x := by
  rw [x_u_eq]
  unfold q_up
  by_cases e : x = k
  · rw [if_pos ⟨rfl, e⟩, if_pos e]
  · rw [if_neg (fun h => e h.2), if_neg e]
theorem m_wheels {g : x_G} {k : Nat} {Q : x_Q} {I L : Nat → Nat → Int} {lp tp na R : Nat} {H : Nat → Nat → Int} (hR : R ≤ 8) (e24 : I 179 24 = (R : Int)) (hA : q_Am I H na) (hp : ¬ R = 0 → 1 ≤ I 190 24 ∧ I 190 24 ≤ 5) {o : Int} (ho : o = 0 ∨ o = 1) (q0 : R = 0 ∨ I 190 24 = (if o = 0 then 5 else 1) → Q [x_i (-1)] (x_u I 179 0 0, L, lp, tp)) (q1 : ¬ R = 0 → ¬ I 190 24 = (if o = 0 then 5 else 1) → ∀ I', x_fr q_fPm I I' → (∀ x, I' 190 x = q_up (I 190) 24 (I 190 24 + (if o = 0 then 1 else -1)) x) → q_Am I' (q_h1 H na (I 190)) (min 40 (na + 1)) → Q [x_i (I 190 24 + (if o = 0 then 1 else -1))] (I', L, lp, tp)) : x_X g (k + 2) 245 [x_r 179, x_i o] (I, L, lp, tp) Q := by
  have act : ∀ v : Int, ¬ R = 0 → ¬ I 190 24 = (if o = 0 then 5 else 1) → v = (if o = 0 then 1 else -1) → x_X g (k + 1) 242 [x_r 179] (x_u I 179 0 0, L, lp, tp) (fun rv w5 => rv = [] ∧ Q [x_i (w5.1 190 24 + v)] (x_u w5.1 190 24 (w5.1 190 24 + v), w5.2.1, w5.2.2.1, w5.2.2.2)) := fun v h0 h1 hv => by
    subst hv
    refine m_remember (q_Am_0 hA) (fun I1 f1 hA1 => ⟨rfl, ?_⟩)
    have e : ∀ x, I1 190 x = I 190 x := fun x => f1 190 x rfl
    dsimp only
    rw [e]
    refine q1 h0 h1 _ (x_fr_u (x_fr_trans (x_fr_u (x_fr_refl _ _) rfl) (x_fr_mono f1 rfl)) rfl) (fun x => ?_) (q_Am_N hA1)
    rw [q_upN, show I1 190 = I 190 from funext e]
  refine v_wheelsM (k := k + 1) ?_
  rw [e24]
  rcases ho with rfl | rfl
  · rw [if_pos rfl] at q0 act
    rw [if_pos rfl] at act
    refine ⟨⟨by omega, by omega⟩, fun c => q0 (by omega), fun c => ⟨by decide, fun _ => ?_, fun h => absurd rfl h⟩⟩
    have hp := hp (by omega)
    exact ⟨⟨by omega, by omega⟩, fun c1 => act 1 (by omega) c1 rfl, fun c1 => q0 (Or.inr c1)⟩
  · rw [if_neg (by decide)] at q0 act
    rw [if_neg (by decide)] at act
    refine ⟨⟨by omega, by omega⟩, fun c => q0 (by omega), fun c => ⟨by decide, fun h => absurd h (by decide), fun _ => ?_⟩⟩
    have hp := hp (by omega)
    exact ⟨⟨by omega, by omega⟩, fun c1 => act (-1) (by omega) c1 rfl, fun c1 => q0 (Or.inr c1)⟩
