/-! day: the class's cells and the row -/
abbrev q_V : Type := (Nat → Int) × (Nat → Nat → Int) × Nat × (Nat → Int) × Int
abbrev q_vN (v : q_V) : Nat → Int := v.1
abbrev q_vH (v : q_V) : Nat → Nat → Int := v.2.1
abbrev q_vn (v : q_V) : Nat := v.2.2.1
abbrev q_vl (v : q_V) : Nat → Int := v.2.2.2.1
abbrev q_vr (v : q_V) : Int := v.2.2.2.2
def q_Kc (I : Nat → Nat → Int) (lp R : Nat) (ru to : Nat → Int) (lo : Option q_F6) (nr : Nat) (RD : Nat → Nat → Int) (v : q_V) : Prop := q_Oc I R ru to ∧ q_Lc I lp lo ∧ (I 1 15 = (nr : Int) ∧ ∀ j, j < nr → ∀ x, x < 8 → I (150 + j) x = RD j x) ∧ I 1 16 = q_vr v ∧ q_St I 18 (q_vN v) ∧ q_Ac I (q_vH v) (q_vn v) ∧ ∀ x, I 23 x = q_vl v x
def q_Rk (nr : Nat) (RD : Nat → Nat → Int) (rh : Int) : Prop := nr ≤ 4 ∧ (rh = -1 ∨ (0 ≤ rh ∧ rh < (nr : Int))) ∧ ∀ j, j < nr → (∀ x, x < 8 → -1 ≤ RD j x ∧ RD j x < 8) ∧ ∀ x x', x < 8 → x' < 8 → RD j x = RD j x' → 0 ≤ RD j x → x = x'
theorem q_rd_k {nr : Nat} {RD : Nat → Nat → Int} {rh : Int} (h : q_Rk nr RD rh) : ∀ x, x < 8 → -1 ≤ q_rd RD rh x ∧ q_rd RD rh x < 8 := fun x hx => by
  unfold q_rd
  by_cases c : rh = -1
  · rw [if_pos c]; omega
  · rw [if_neg c]
    have := h.2.1
    exact (h.2.2 rh.toNat (by omega)).1 x hx
theorem q_rd_d {nr : Nat} {RD : Nat → Nat → Int} {rh : Int} (h : q_Rk nr RD rh) : ∀ x x', x < 8 → x' < 8 → q_rd RD rh x = q_rd RD rh x' → 0 ≤ q_rd RD rh x → x = x' := fun x x' hx hx' => by
  unfold q_rd
  by_cases c : rh = -1
  · rw [if_pos c]; intro _ h1; omega
  · rw [if_neg c, if_neg c]
    have := h.2.1
    exact (h.2.2 rh.toNat (by omega)).2 x x' hx hx'
abbrev q_dKc : List (Nat × Nat × Nat) := [(14, 3, 4), (15, 0, 4), (16, 0, 40), (17, 0, 72), (167, 2, 3), (168, 0, 240), (170, 2, 3), (171, 0, 240), (173, 2, 3), (174, 0, 240), (176, 2, 3), (177, 0, 240), (1, 15, 16), (150, 0, 8), (151, 0, 8), (152, 0, 8), (153, 0, 8)]
theorem q_Kc_ag {I I' : Nat → Nat → Int} {lp R : Nat} {ru to : Nat → Int} {lo : Option q_F6} {nr : Nat} {RD : Nat → Nat → Int} {v v' : q_V} (hR : R ≤ 8) (hn : nr ≤ 4) (h : q_Kc I lp R ru to lo nr RD v) (hf : q_ag q_dKc I I') (e16 : I' 1 16 = q_vr v') (hN : q_St I' 18 (q_vN v')) (hA : q_Ac I' (q_vH v') (q_vn v')) (hl : ∀ x, I' 23 x = q_vl v' x) : q_Kc I' lp R ru to lo nr RD v' := by
  obtain ⟨hO, hL, ⟨h15, hr⟩, -⟩ := h
  refine ⟨q_Oc_ag hR hO (q_ag_sub hf rfl), q_Lc_ag hL (q_ag_sub hf rfl), ⟨(hf _ _ rfl).trans h15, fun j hj x hx => ?_⟩, e16, hN, hA, hl⟩
  rw [← hr j hj x hx]
  rcases (show j = 0 ∨ j = 1 ∨ j = 2 ∨ j = 3 by omega) with rfl | rfl | rfl | rfl
  · exact q_ag_at hf (150, 0, 8) (by decide) (Nat.zero_le _) hx
  · exact q_ag_at hf (151, 0, 8) (by decide) (Nat.zero_le _) hx
  · exact q_ag_at hf (152, 0, 8) (by decide) (Nat.zero_le _) hx
  · exact q_ag_at hf (153, 0, 8) (by decide) (Nat.zero_le _) hx
theorem q_Kc_ZC {I : Nat → Nat → Int} {lp R : Nat} {ru to : Nat → Int} {lo : Option q_F6} {nr : Nat} {RD : Nat → Nat → Int} {v : q_V} (hR : R ≤ 8) (hr : q_Rk nr RD (q_vr v)) (h : q_Kc I lp R ru to lo nr RD v) : q_ZC I lp (q_zo R ru to lo (q_rd RD (q_vr v)) (q_vN v)) := by
  obtain ⟨hO, hL, ⟨h15, hrr⟩, h16, hN, hA, hl⟩ := h
  obtain ⟨n1, ⟨d, d1, d2, d3⟩, n3, n4, n5, n6, n7⟩ := hN
  obtain ⟨r1, r2, r3⟩ := hr
  refine ⟨⟨hO, hL, n3, fun r h => (n1 r (by have : r < R := h; omega)).1⟩, ⟨⟨by omega, by omega⟩, ?_⟩, ?_, n4, n5⟩
  · by_cases c : q_vr v = -1
    · exact Or.inl ⟨h16.trans c, fun x => if_pos c⟩
    · refine Or.inr ⟨(q_vr v).toNat, by rw [h16]; omega, by omega, fun x hx => ?_⟩
      exact (hrr _ (by omega) x hx).trans (if_neg c).symm
  · rw [d2, q_dn_eq d1 d3]
    rfl
theorem c_pass {g : x_G} {k : Nat} {Q : x_Q} {I L : Nat → Nat → Int} {lp tp R : Nat} {ru to : Nat → Int} {lo : Option q_F6} {nr D : Nat} {RD : Nat → Nat → Int} {v : q_V} (hW : q_Wo R ru to) (hr : q_Rk nr RD (q_vr v)) (hK : q_Kc I lp R ru to lo nr RD v) (hN : q_Nk R (q_vN v) D) (hD : D < 9999) (hq : ∀ I', x_fr q_fKd I I' → I' 156 10 = q_so (q_zs (q_zo R ru to lo (q_rd RD (q_vr v)) (q_vN v))) → q_Kc I' lp R ru to lo nr RD (q_zn (q_zo R ru to lo (q_rd RD (q_vr v)) (q_vN v)) (q_vN v), q_vH v, q_vn v, q_lgD (q_zo R ru to lo (q_rd RD (q_vr v)) (q_vN v)) D (q_vl v), q_vr v) → Q [] (I', L, lp, tp)) : x_X g (k + 15) 145 [x_r 1] (I, L, lp, tp) Q := by
  have hR : R ≤ 8 := by rcases hW.1 with h | h <;> omega
  have hZ := q_zo_k (lo := lo) hW hN (q_rd_k hr)
  refine s_passDay (D := D) hZ (q_Kc_ZC hR hr hK) hK.2.2.2.2.1 (fun r h => (hN.1 r h).2.1) (fun r h1 h2 => (hN.2.1 r h1 h2).2) hN.2.2.2.2.2.2.1 hD (fun I1 f1 e1 n1 l1 => ?_)
  refine hq I1 f1 e1 (q_Kc_ag hR hr.1 hK (x_fr_ag f1 rfl) ((f1 _ _ rfl).trans hK.2.2.2.1) n1 (q_Ac_fr hK.2.2.2.2.2.1 (f1 _ _ rfl) (f1 _ _ rfl) (fun a k h1 h2 => f1 a k ?_)) (fun x => ?_))
  · cases e : x_mem q_fKd a k with
    | false => rfl
    | true =>
      obtain ⟨t, m1, m2, -⟩ := (x_mem_iff _ a k).mp e
      have hall : ∀ t ∈ q_fKd, t.1 < 28 ∨ 148 ≤ t.1 := by decide
      have := hall t m1
      omega
  · rw [l1]
    show _ = q_lgD _ D _ x
    unfold q_lgD
    rw [hK.2.2.2.2.2.2 x]
theorem c_begin {g : x_G} {k : Nat} {Q : x_Q} {I L : Nat → Nat → Int} {lp tp R : Nat} {ru to : Nat → Int} {lo : Option q_F6} {nr : Nat} {RD : Nat → Nat → Int} {v : q_V} (hR : R ≤ 8) (hn : nr ≤ 4) (hK : q_Kc I lp R ru to lo nr RD v) (hq : ∀ I', x_fr q_fA I I' → I' 161 1 = 0 → q_Kc I' lp R ru to lo nr RD (q_vN v, q_h1 (q_vH v) (q_vn v) (q_vN v), min 40 (q_vn v + 1), q_vl v, q_vr v) → Q [] (I', L, lp, tp)) : x_X g (k + 4) 144 [x_r 1] (I, L, lp, tp) Q :=
  s_beginAct hK.2.2.2.2.1 hK.2.2.2.2.2.1 (fun I1 f1 e1 hA1 => hq I1 f1 e1 (q_Kc_ag hR hn hK (x_fr_ag f1 (by decide +kernel)) ((q_fA_out f1 (by omega)).trans hK.2.2.2.1) (q_St_A hK.2.2.2.2.1 f1) hA1 (fun x => (f1 23 x (by cases e : x_mem q_fA 23 x with
    | false => rfl
    | true =>
      obtain ⟨t, m1, m2, -⟩ := (x_mem_iff _ 23 x).mp e
      rcases List.mem_cons.mp m1 with rfl | m1
      · dsimp only at m2; omega
      · rcases List.mem_cons.mp m1 with rfl | m1
        · dsimp only at m2; omega
        · obtain ⟨i, i1, rfl⟩ := List.mem_map.mp m1
          dsimp only at m2; omega)).trans (hK.2.2.2.2.2.2 x))))
theorem x_mem_app (S T : List (Nat × Nat × Nat)) (a k : Nat) : x_mem (S ++ T) a k = (x_mem S a k || x_mem T a k) := List.any_append
theorem x_fr_l {S T : List (Nat × Nat × Nat)} {I I' : Nat → Nat → Int} (h : x_fr S I I') : x_fr (S ++ T) I I' := fun a k hm => h a k (by
  rw [x_mem_app] at hm
  exact (Bool.or_eq_false_iff.mp hm).1)
theorem x_fr_r {S T : List (Nat × Nat × Nat)} {I I' : Nat → Nat → Int} (h : x_fr T I I') : x_fr (S ++ T) I I' := fun a k hm => h a k (by
  rw [x_mem_app] at hm
  exact (Bool.or_eq_false_iff.mp hm).2)
abbrev q_fKe : List (Nat × Nat × Nat) := [(1, 16, 17), (18, 2, 8), (20, 0, 8), (23, 0, 300), (155, 0, 6), (167, 3, 4), (169, 0, 40), (170, 3, 4), (172, 0, 40), (173, 3, 4), (175, 0, 40), (176, 3, 4), (178, 0, 40), (156, 5, 13), (157, 0, 8), (158, 0, 8), (159, 0, 8), (160, 0, 8)]
abbrev q_fDc : List (Nat × Nat × Nat) := q_fKe ++ q_fA
theorem c_day {g : x_G} {k : Nat} {Q : x_Q} {I L : Nat → Nat → Int} {lp tp R : Nat} {ru to : Nat → Int} {lo : Option q_F6} {nr D : Nat} {RD : Nat → Nat → Int} {v : q_V} (hW : q_Wo R ru to) (hr : q_Rk nr RD (q_vr v)) (hK : q_Kc I lp R ru to lo nr RD v) (hN : q_Nk R (q_vN v) D) (q0 : R = 0 ∨ D = 9999 → Q [x_i (-1)] (I, L, lp, tp)) (q1 : ¬ R = 0 → D < 9999 → ∀ I', x_fr q_fDc I I' → I' 161 1 = 0 → q_Kc I' lp R ru to lo nr RD (q_zn (q_zo R ru to lo (q_rd RD (q_vr v)) (q_vN v)) (q_vN v), q_h1 (q_vH v) (q_vn v) (q_vN v), min 40 (q_vn v + 1), q_lgD (q_zo R ru to lo (q_rd RD (q_vr v)) (q_vN v)) D (q_vl v), q_vr v) → Q [x_i (q_so (q_zs (q_zo R ru to lo (q_rd RD (q_vr v)) (q_vN v))))] (I', L, lp, tp)) : x_X g (k + 17) 132 [x_r 1] (I, L, lp, tp) Q := by
  have hR : R ≤ 8 := by rcases hW.1 with h | h <;> omega
  have e3 : I 14 3 = (R : Int) := hK.1.1
  have e7 : I 18 7 = (D : Int) := hK.2.2.2.2.1.2.2.2.2.2.2.trans hN.2.2.2.2.2.2.1
  have h8 := hN.2.2.2.2.2.2.2.1
  refine v_day (k := k + 15) ?_
  rw [e3, e7]
  refine ⟨⟨by omega, by omega⟩, fun c => ⟨⟨by omega, by omega⟩, fun c1 => ?_, fun c1 => q0 (by omega)⟩, fun c => q0 (by omega)⟩
  refine x_le (show 4 ≤ k + 15 by omega) (c_begin (k := 0) hR hr.1 hK (fun I1 f1 e1 K1 => ⟨rfl, ?_⟩))
  refine c_pass (v := (q_vN v, q_h1 (q_vH v) (q_vn v) (q_vN v), min 40 (q_vn v + 1), q_vl v, q_vr v)) hW hr K1 hN (by omega) (fun I2 f2 e2 K2 => ⟨rfl, ?_⟩)
  dsimp only
  rw [e2]
  exact q1 (by omega) (by omega) I2 (x_fr_trans (x_fr_r f1) (x_fr_l (x_fr_mono f2 rfl))) ((f2 _ _ rfl).trans e1) K2
