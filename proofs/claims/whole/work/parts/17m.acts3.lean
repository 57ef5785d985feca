/-! acts: fill, move, day -/
theorem c_fill {g : x_G} {k : Nat} {Q : x_Q} {I L : Nat → Nat → Int} {lp tp na R : Nat} {H : Nat → Nat → Int} {N : Nat → Int} (hR : R ≤ 8) (e3 : I 14 3 = (R : Int)) (hN : q_St I 18 N) (hA : q_Ac I H na) (g5 : x_rg (N 25)) (g6 : x_rg (N 26)) {w v : Int} (hw : x_rg w) (hv : x_rg v) (q0 : ¬ (¬ R = 0 ∧ ((w = 0 ∧ 10 ≤ v ∧ v ≤ 99 ∧ ¬ v = N 25) ∨ (w = 1 ∧ 1 ≤ v ∧ v ≤ 60 ∧ ¬ v = N 26))) → Q [x_i (-1)] (I, L, lp, tp)) (q1 : (¬ R = 0 ∧ ((w = 0 ∧ 10 ≤ v ∧ v ≤ 99 ∧ ¬ v = N 25) ∨ (w = 1 ∧ 1 ≤ v ∧ v ≤ 60 ∧ ¬ v = N 26))) → ∀ I', x_fr q_fA1 I I' → I' 161 1 = 0 → q_St I' 18 (q_up N (25 + w.toNat) v) → q_Ac I' (q_h1 H na N) (min 40 (na + 1)) → Q [x_i (N (25 + w.toNat))] (I', L, lp, tp)) : x_X g (k + 6) 136 [x_r 1, x_i w, x_i v] (I, L, lp, tp) Q := by
  have e4 : I 18 4 = N 25 := hN.2.2.2.1
  have e5 : I 18 5 = N 26 := hN.2.2.2.2.1
  have a4 : ¬ R = 0 → w = 0 → 10 ≤ v → v ≤ 99 → ¬ v = N 25 → x_X g (k + 4) 144 [x_r 1] (I, L, lp, tp) (fun rv w6 => rv = [] ∧ Q [x_i (w6.1 18 4)] (x_u w6.1 18 4 v, w6.2.1, w6.2.2.1, w6.2.2.2)) := fun h0 h1 h2 h3 h4 => by
    have q1 := q1 (by omega)
    rw [h1] at q1
    refine s_beginAct hN hA (fun I1 f1 e1 hA1 => ⟨rfl, ?_⟩)
    have p : I1 18 4 = N 25 := (q_St_A hN f1).2.2.2.1
    dsimp only
    rw [p]
    exact q1 _ (x_fr_u (q_fA_1 f1) rfl) e1 (q_St_f (q_St_A hN f1) 4 (Or.inr (Or.inl rfl)) _) (q_Ac_fr hA1 rfl rfl (fun a k h1 h2 => x_u_ne _ _ (by omega)))
  have a5 : ¬ R = 0 → w = 1 → 1 ≤ v → v ≤ 60 → ¬ v = N 26 → x_X g (k + 4) 144 [x_r 1] (I, L, lp, tp) (fun rv w6 => rv = [] ∧ Q [x_i (w6.1 18 5)] (x_u w6.1 18 5 v, w6.2.1, w6.2.2.1, w6.2.2.2)) := fun h0 h1 h2 h3 h4 => by
    have q1 := q1 (by omega)
    rw [h1] at q1
    refine s_beginAct hN hA (fun I1 f1 e1 hA1 => ⟨rfl, ?_⟩)
    have p : I1 18 5 = N 26 := (q_St_A hN f1).2.2.2.2.1
    dsimp only
    rw [p]
    exact q1 _ (x_fr_u (q_fA_1 f1) rfl) e1 (q_St_f (q_St_A hN f1) 5 (Or.inr (Or.inr rfl)) _) (q_Ac_fr hA1 rfl rfl (fun a k h1 h2 => x_u_ne _ _ (by omega)))
  refine v_fill (k := k + 4) ?_
  rw [e3, e4, e5]
  refine ⟨⟨by omega, by omega⟩, fun c => ⟨hw, fun c1 => ⟨fun c2 => q0 (by omega), fun c2 => ⟨hv, fun c3 => q0 (by omega), fun c3 => ⟨fun c4 => q0 (by omega), fun c4 => ⟨g6, fun c5 => q0 (by omega), fun c5 => a5 (by omega) c2 c3 c4 c5⟩⟩⟩⟩, fun c1 => ⟨hv, fun c2 => ⟨fun c3 => q0 (by omega), fun c3 => by omega⟩, fun c2 => ⟨fun c3 => ⟨fun c4 => q0 (by omega), fun c4 => by omega⟩, fun c3 => ⟨g5, fun c4 => ⟨fun c5 => q0 (by omega), fun c5 => by omega⟩, fun c4 => a4 (by omega) c1 c2 c3 c4⟩⟩⟩⟩, fun c => q0 (by omega)⟩
theorem m_fill {g : x_G} {k : Nat} {Q : x_Q} {I L : Nat → Nat → Int} {lp tp na R : Nat} {H : Nat → Nat → Int} (hR : R ≤ 8) (e24 : I 179 24 = (R : Int)) (hA : q_Am I H na) (g5 : x_rg (I 190 25)) (g6 : x_rg (I 190 26)) {w v : Int} (hw : x_rg w) (hv : x_rg v) (q0 : ¬ (¬ R = 0 ∧ ((w = 0 ∧ 10 ≤ v ∧ v ≤ 99 ∧ ¬ v = I 190 25) ∨ (w = 1 ∧ 1 ≤ v ∧ v ≤ 60 ∧ ¬ v = I 190 26))) → Q [x_i (-1)] (x_u I 179 0 0, L, lp, tp)) (q1 : (¬ R = 0 ∧ ((w = 0 ∧ 10 ≤ v ∧ v ≤ 99 ∧ ¬ v = I 190 25) ∨ (w = 1 ∧ 1 ≤ v ∧ v ≤ 60 ∧ ¬ v = I 190 26))) → ∀ I', x_fr q_fPm I I' → (∀ x, I' 190 x = q_up (I 190) (25 + w.toNat) v x) → q_Am I' (q_h1 H na (I 190)) (min 40 (na + 1)) → Q [x_i (I 190 (25 + w.toNat))] (I', L, lp, tp)) : x_X g (k + 3) 247 [x_r 179, x_i w, x_i v] (I, L, lp, tp) Q := by
  have act : ∀ j : Nat, j < 210 → (¬ R = 0 ∧ ((w = 0 ∧ 10 ≤ v ∧ v ≤ 99 ∧ ¬ v = I 190 25) ∨ (w = 1 ∧ 1 ≤ v ∧ v ≤ 60 ∧ ¬ v = I 190 26))) → j = 25 + w.toNat → x_X g (k + 1) 242 [x_r 179] (x_u I 179 0 0, L, lp, tp) (fun rv w5 => rv = [] ∧ Q [x_i (w5.1 190 j)] (x_u w5.1 190 j v, w5.2.1, w5.2.2.1, w5.2.2.2)) := fun j hj h0 h1 => by
    have q1 := q1 h0
    rw [← h1] at q1
    refine m_remember (q_Am_0 hA) (fun I1 f1 hA1 => ⟨rfl, ?_⟩)
    have e : ∀ x, I1 190 x = I 190 x := fun x => f1 190 x rfl
    dsimp only
    rw [e]
    refine q1 _ (x_fr_u (k := j) (x_fr_trans (x_fr_u (x_fr_refl _ _) rfl) (x_fr_mono f1 rfl)) (x_mem1 ⟨by omega, by omega⟩)) (fun x => ?_) (q_Am_N hA1)
    rw [q_upN, show I1 190 = I 190 from funext e]
  refine v_fillM (k := k + 1) ?_
  rw [e24]
  refine ⟨⟨by omega, by omega⟩, fun c => q0 (by omega), fun c => ⟨hw, fun c1 => ?_, fun c1 => q0 (by omega)⟩⟩
  rcases (show w = 0 ∨ w = 1 by omega) with rfl | rfl
  · rw [show ((25 : Int) + 0).toNat = 25 from rfl]
    exact ⟨fun c2 => absurd rfl c2, fun _ => ⟨hv, fun c2 => ⟨⟨by decide, by decide⟩, g5, fun c3 => act 25 (by omega) (by omega) rfl, fun c3 => q0 (by omega)⟩, fun c2 => q0 (by omega)⟩⟩
  · rw [show ((25 : Int) + 1).toNat = 26 from rfl]
    exact ⟨fun _ => ⟨hv, fun c2 => ⟨⟨by decide, by decide⟩, g6, fun c3 => act 26 (by omega) (by omega) rfl, fun c3 => q0 (by omega)⟩, fun c2 => q0 (by omega)⟩, fun c2 => absurd c2 (by decide)⟩
theorem c_move {g : x_G} {k : Nat} {Q : x_Q} {I L : Nat → Nat → Int} {lp tp na R : Nat} {H : Nat → Nat → Int} {N : Nat → Int} (hR : R ≤ 8) (e3 : I 14 3 = (R : Int)) (hN : q_St I 18 N) (hA : q_Ac I H na) (hw : ∀ r, r < 8 → 0 ≤ N r ∧ N r ≤ 9) {f t n : Int} (hf : x_rg f) (ht : x_rg t) (hn : x_rg n) (q0 : ¬ (0 ≤ f ∧ f < (R : Int) ∧ 0 ≤ t ∧ t < (R : Int) ∧ ¬ f = t ∧ 1 ≤ n ∧ n ≤ 9 ∧ n ≤ N f.toNat ∧ N t.toNat + n ≤ 9) → Q [x_i (-1)] (I, L, lp, tp)) (q1 : (0 ≤ f ∧ f < (R : Int) ∧ 0 ≤ t ∧ t < (R : Int) ∧ ¬ f = t ∧ 1 ≤ n ∧ n ≤ 9 ∧ n ≤ N f.toNat ∧ N t.toNat + n ≤ 9) → ∀ I', x_fr q_fA1 I I' → I' 161 1 = 0 → q_St I' 18 (q_up (q_up N f.toNat (N f.toNat - n)) t.toNat (N t.toNat + n)) → q_Ac I' (q_h1 H na N) (min 40 (na + 1)) → Q [x_i (N t.toNat + n)] (I', L, lp, tp)) : x_X g (k + 6) 135 [x_r 1, x_i f, x_i t, x_i n] (I, L, lp, tp) Q := by
  refine v_move (k := k + 4) ?_
  rw [e3]
  refine ⟨hf, fun c => q0 (by omega), fun c1 => ⟨⟨by omega, by omega⟩, fun c => q0 (by omega), fun c2 => ⟨ht, fun c => q0 (by omega), fun c3 => ⟨fun c => q0 (by omega), fun c4 => ⟨fun c => q0 (by omega), fun c5 => ⟨hn, fun c => q0 (by omega), fun c6 => ⟨fun c7 => ?_, fun c => q0 (by omega)⟩⟩⟩⟩⟩⟩⟩
  obtain ⟨a, rfl⟩ := Int.eq_ofNat_of_zero_le c1
  obtain ⟨b, rfl⟩ := Int.eq_ofNat_of_zero_le c3
  rw [show ((a : Int)).toNat = a by omega, show ((b : Int)).toNat = b by omega] at q0 q1 ⊢
  have ea : I 19 a = N a := (hN.1 a (by omega)).1
  have eb : I 19 b = N b := (hN.1 b (by omega)).1
  have ha := hw a (by omega)
  have hb := hw b (by omega)
  rw [ea, eb]
  refine ⟨⟨by omega, by omega⟩, ⟨by omega, by omega⟩, fun c => q0 (by omega), fun c8 => ⟨⟨by omega, by omega⟩, ⟨by omega, by omega⟩, fun c9 => ?_, fun c => q0 (by omega)⟩⟩
  refine s_beginAct hN hA (fun I1 f1 e1 hA1 => ⟨rfl, ?_⟩)
  have h1 := q_St_A hN f1
  have p : I1 19 a = N a := (h1.1 a (by omega)).1
  have p2 : x_u I1 19 a (N a - n) 19 b = N b := (x_u_ne _ _ (by omega)).trans (h1.1 b (by omega)).1
  dsimp only
  rw [p, p2, x_u_same]
  exact q1 (by omega) _ (x_fr_u (k := b) (x_fr_u (k := a) (q_fA_1 f1) (x_mem2 (b := 0) (lo := 0) (hi := 0) (x_mem1 ⟨by omega, by omega⟩))) (x_mem2 (b := 0) (lo := 0) (hi := 0) (x_mem1 ⟨by omega, by omega⟩))) e1 (q_St_w (q_St_w h1 (show a < 8 by omega) _) (show b < 8 by omega) _) (q_Ac_fr hA1 rfl rfl (fun a k h1 h2 => (x_u_ne _ _ (by omega)).trans (x_u_ne _ _ (by omega))))
theorem m_move {g : x_G} {k : Nat} {Q : x_Q} {I L : Nat → Nat → Int} {lp tp na R : Nat} {H : Nat → Nat → Int} (hR : R ≤ 8) (e24 : I 179 24 = (R : Int)) (hA : q_Am I H na) (hw : ∀ r, r < 8 → 0 ≤ I 190 r ∧ I 190 r ≤ 9) {f t n : Int} (hf : x_rg f) (ht : x_rg t) (hn : x_rg n) (q0 : ¬ (0 ≤ f ∧ f < (R : Int) ∧ 0 ≤ t ∧ t < (R : Int) ∧ ¬ f = t ∧ 1 ≤ n ∧ n ≤ 9 ∧ n ≤ I 190 f.toNat ∧ I 190 t.toNat + n ≤ 9) → Q [x_i (-1)] (x_u I 179 0 0, L, lp, tp)) (q1 : (0 ≤ f ∧ f < (R : Int) ∧ 0 ≤ t ∧ t < (R : Int) ∧ ¬ f = t ∧ 1 ≤ n ∧ n ≤ 9 ∧ n ≤ I 190 f.toNat ∧ I 190 t.toNat + n ≤ 9) → ∀ I', x_fr q_fPm I I' → (∀ x, I' 190 x = q_up (q_up (I 190) f.toNat (I 190 f.toNat - n)) t.toNat (I 190 t.toNat + n) x) → q_Am I' (q_h1 H na (I 190)) (min 40 (na + 1)) → Q [x_i (I 190 t.toNat + n)] (I', L, lp, tp)) : x_X g (k + 3) 246 [x_r 179, x_i f, x_i t, x_i n] (I, L, lp, tp) Q := by
  refine v_moveM (k := k + 1) ?_
  rw [e24]
  refine ⟨hf, fun c => q0 (by omega), fun c1 => ⟨⟨by omega, by omega⟩, fun c => q0 (by omega), fun c2 => ⟨ht, fun c => q0 (by omega), fun c3 => ⟨fun c => q0 (by omega), fun c4 => ⟨fun c => q0 (by omega), fun c5 => ⟨hn, fun c6 => ?_, fun c => q0 (by omega)⟩⟩⟩⟩⟩⟩
  obtain ⟨a, rfl⟩ := Int.eq_ofNat_of_zero_le c1
  obtain ⟨b, rfl⟩ := Int.eq_ofNat_of_zero_le c3
  rw [show ((a : Int)).toNat = a by omega, show ((b : Int)).toNat = b by omega] at q0 q1 ⊢
  have ha := hw a (by omega)
  have hb := hw b (by omega)
  refine ⟨⟨by omega, by omega⟩, ⟨by omega, by omega⟩, fun c => q0 (by omega), fun c8 => ⟨⟨by omega, by omega⟩, ⟨by omega, by omega⟩, fun c9 => ?_, fun c => q0 (by omega)⟩⟩
  refine m_remember (q_Am_0 hA) (fun I1 f1 hA1 => ⟨rfl, ?_⟩)
  have e : ∀ x, I1 190 x = I 190 x := fun x => f1 190 x rfl
  have p2 : x_u I1 190 a (I 190 a - n) 190 b = I 190 b := (x_u_ne _ _ (by omega)).trans (e b)
  dsimp only
  rw [e a, p2, x_u_same]
  refine q1 (by omega) _ (x_fr_u (k := b) (x_fr_u (k := a) (x_fr_trans (x_fr_u (x_fr_refl _ _) rfl) (x_fr_mono f1 rfl)) (x_mem1 ⟨by omega, by omega⟩)) (x_mem1 ⟨by omega, by omega⟩)) (fun x => ?_) (q_Am_N (q_Am_N hA1))
  rw [q_upN, show x_u I1 190 a (I 190 a - n) 190 = q_up (I 190) a (I 190 a - n) from funext fun x => by rw [q_upN, show I1 190 = I 190 from funext e]]
