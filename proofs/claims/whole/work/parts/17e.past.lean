/-! the past, by the class -/
def q_pl (nx na j : Nat) : Nat := 28 + 3 * ((nx + 40 - na + j) % 40)
/-- the history that can be undone: rows H j, the oldest first -/
def q_Ac (I : Nat → Nat → Int) (H : Nat → Nat → Int) (na : Nat) : Prop := ∃ nx : Nat, nx < 40 ∧ I 21 4 = (nx : Int) ∧ I 21 5 = (na : Int) ∧ na ≤ 40 ∧ ∀ j, j < na → q_St I (q_pl nx na j) (H j)
def q_h1 (H : Nat → Nat → Int) (na : Nat) (N : Nat → Int) : Nat → Nat → Int := fun j => if j = min na 39 then N else if na = 40 then H (j + 1) else H j
abbrev q_fA : List (Nat × Nat × Nat) := (21, 4, 6) :: (161, 1, 2) :: (List.range 120).map (fun i => (28 + i, 0, 8))
theorem q_fA_in {a k : Nat} (h1 : 28 ≤ a) (h2 : a < 148) (hk : k < 8) : x_mem q_fA a k = true := by
  refine x_memI (a, 0, 8) (List.mem_cons_of_mem _ (List.mem_cons_of_mem _ (List.mem_map.mpr ⟨a - 28, List.mem_range.mpr (by omega), ?_⟩))) rfl (Nat.zero_le _) hk
  show (28 + (a - 28), 0, 8) = (a, 0, 8)
  rw [show 28 + (a - 28) = a by omega]
theorem q_tm40 (n : Nat) : Int.tmod ((n : Int)) 40 = ((n % 40 : Nat) : Int) := rfl
theorem s_remember {g : x_G} {k : Nat} {Q : x_Q} {I L : Nat → Nat → Int} {lp tp na : Nat} {H : Nat → Nat → Int} {N : Nat → Int} (hN : q_St I 18 N) (hA : q_Ac I H na) (hq : ∀ I', x_fr q_fA I I' → q_Ac I' (q_h1 H na N) (min 40 (na + 1)) → Q [] (I', L, lp, tp)) : x_X g (k + 2) 64 [x_r 21, x_r 18] (I, L, lp, tp) Q := by
  obtain ⟨nx, hx, e4, e5, hna, hH⟩ := hA
  obtain ⟨t1, t2, t3, t4, t5, t6⟩ := q_st_tab nx hx
  refine v_remember (k := k + 1) ?_
  rw [e4, show ((nx : Int)).toNat = nx by omega, t6, x_sh_s0 (by omega)]
  have hc6 := q_c6_eq (I := I) (s := 18) (o := 28 + 3 * nx) (by omega)
  have c4 : q_c6 I 18 (28 + 3 * nx) 21 4 = (nx : Int) := (hc6.1 21 4 (by omega)).trans e4
  have c5 : q_c6 I 18 (28 + 3 * nx) 21 5 = (na : Int) := (hc6.1 21 5 (by omega)).trans e5
  refine ⟨⟨by omega, by omega⟩, t1, s_copy (Or.inr (Or.inr ⟨nx, hx, rfl⟩)) (Or.inl rfl) ⟨rfl, ?_⟩⟩
  dsimp only
  rw [c4, c5, show (nx : Int) + 1 = ((nx + 1 : Nat) : Int) by omega, q_tm40]
  refine ⟨⟨by omega, by omega⟩, ⟨by omega, by omega⟩, hq _ ?_ ?_⟩
  · refine x_fr_u (x_fr_u (fun a k hm => hc6.1 a k (fun h => ?_)) rfl) rfl
    rw [q_fA_in (by omega) (by omega) h.2.2] at hm; cases hm
  · refine ⟨(nx + 1) % 40, by omega, rfl, by show min 40 ((na : Int) + 1) = ((min 40 (na + 1) : Nat) : Int); omega, by omega, fun j hj => ?_⟩
    have nw : ∀ c N', q_St (q_c6 I 18 (28 + 3 * nx)) c N' → 28 ≤ c → q_St (x_u (x_u (q_c6 I 18 (28 + 3 * nx)) 21 4 (((nx + 1) % 40 : Nat) : Int)) 21 5 (min 40 ((na : Int) + 1))) c N' := fun c N' h hc => q_St_eq h (fun k _ _ => by rw [x_u_ne _ _ (by omega), x_u_ne _ _ (by omega)]) (fun k _ => ⟨by rw [x_u_ne _ _ (by omega), x_u_ne _ _ (by omega)], by rw [x_u_ne _ _ (by omega), x_u_ne _ _ (by omega)]⟩)
    refine nw _ _ ?_ (by unfold q_pl; omega)
    unfold q_h1
    by_cases ej : j = min na 39
    · rw [if_pos ej, show q_pl ((nx + 1) % 40) (min 40 (na + 1)) j = 28 + 3 * nx by unfold q_pl; omega]
      exact q_St_cp hN (by omega)
    · rw [if_neg ej]
      by_cases e40 : na = 40
      · rw [if_pos e40, show q_pl ((nx + 1) % 40) (min 40 (na + 1)) j = q_pl nx na (j + 1) by unfold q_pl; omega]
        exact q_St_other (hH (j + 1) (by omega)) (by omega) (by unfold q_pl; omega)
      · rw [if_neg e40, show q_pl ((nx + 1) % 40) (min 40 (na + 1)) j = q_pl nx na j by unfold q_pl; omega]
        exact q_St_other (hH j (by omega)) (by omega) (by unfold q_pl; omega)
theorem s_beginAct {g : x_G} {k : Nat} {Q : x_Q} {I L : Nat → Nat → Int} {lp tp na : Nat} {H : Nat → Nat → Int} {N : Nat → Int} (hN : q_St I 18 N) (hA : q_Ac I H na) (hq : ∀ I', x_fr q_fA I I' → I' 161 1 = 0 → q_Ac I' (q_h1 H na N) (min 40 (na + 1)) → Q [] (I', L, lp, tp)) : x_X g (k + 4) 144 [x_r 1] (I, L, lp, tp) Q := by
  refine v_beginAct (k := k + 2) (s_remember hN hA (fun I' f' hA' => ⟨rfl, hq _ (x_fr_u f' rfl) rfl ?_⟩))
  obtain ⟨nx, hx, e4, e5, hna, hH⟩ := hA'
  exact ⟨nx, hx, e4, e5, hna, fun j hj => q_St_eq (hH j hj) (fun k _ _ => x_u_ne _ _ (by unfold q_pl; omega)) (fun k _ => ⟨x_u_ne _ _ (by unfold q_pl; omega), x_u_ne _ _ (by unfold q_pl; omega)⟩)⟩
abbrev q_fR : List (Nat × Nat × Nat) := [(18, 2, 8), (19, 0, 8), (20, 0, 8), (21, 4, 6)]
theorem s_stepBack {g : x_G} {k : Nat} {Q : x_Q} {I L : Nat → Nat → Int} {lp tp na : Nat} {H : Nat → Nat → Int} (hA : q_Ac I H (na + 1)) (hq : ∀ I', x_fr q_fR I I' → q_St I' 18 (H na) → q_Ac I' H na → Q [] (I', L, lp, tp)) : x_X g (k + 2) 65 [x_r 21, x_r 18] (I, L, lp, tp) Q := by
  obtain ⟨nx, hx, e4, e5, hna, hH⟩ := hA
  obtain ⟨t1, t2, t3, t4, t5, t6⟩ := q_st_tab ((nx + 39) % 40) (by omega)
  refine v_stepBack (k := k + 1) ?_
  rw [e4, e5, show (nx : Int) + 40 - 1 = ((nx + 39 : Nat) : Int) by omega, q_tm40, show (((nx + 39) % 40 : Nat) : Int).toNat = (nx + 39) % 40 by omega, t6]
  refine ⟨⟨by omega, by omega⟩, fun c => by omega, fun _ => ⟨⟨by omega, by omega⟩, ⟨by omega, by omega⟩, s_copy (Or.inl rfl) (Or.inr (Or.inr ⟨_, by omega, rfl⟩)) ⟨rfl, ?_⟩⟩⟩
  generalize hI : x_u I 21 4 (((nx + 39) % 40 : Nat) : Int) = I1
  have i1 : ∀ a k, ¬ (a = 21 ∧ k = 4) → I1 a k = I a k := fun a k h => by rw [← hI]; exact x_u_ne _ _ h
  have i2 : I1 21 4 = (((nx + 39) % 40 : Nat) : Int) := by rw [← hI]; exact x_u_same _ _ _ _
  have hc6 := q_c6_eq (I := I1) (s := 28 + 3 * ((nx + 39) % 40)) (o := 18) (by omega)
  have h1 : ∀ j, j < na + 1 → q_St I1 (q_pl nx (na + 1) j) (H j) := fun j hj => q_St_eq (hH j hj) (fun k _ _ => i1 _ _ (by unfold q_pl; omega)) (fun k _ => ⟨i1 _ _ (by unfold q_pl; omega), i1 _ _ (by unfold q_pl; omega)⟩)
  dsimp only
  rw [hc6.1 21 5 (by omega), i1 21 5 (by omega), e5]
  refine hq _ (x_fr_u (fun a k hm => ?_) rfl) ?_ ⟨(nx + 39) % 40, by omega, ?_, ?_, by omega, fun j hj => ?_⟩
  · rw [← hI]
    by_cases e : a = 18 ∧ 2 ≤ k ∧ k < 8
    · rw [e.1, show x_mem q_fR 18 k = true from x_mem1 e.2] at hm; cases hm
    · by_cases e1 : a = 19 ∧ k < 8
      · rw [e1.1, show x_mem q_fR 19 k = true from x_mem2 (b := 0) (lo := 0) (hi := 0) (x_mem1 ⟨Nat.zero_le _, e1.2⟩)] at hm; cases hm
      · by_cases e2 : a = 20 ∧ k < 8
        · rw [e2.1, show x_mem q_fR 20 k = true from x_mem2 (b := 0) (lo := 0) (hi := 0) (x_mem2 (b := 0) (lo := 0) (hi := 0) (x_mem1 ⟨Nat.zero_le _, e2.2⟩))] at hm; cases hm
        · have e3 : ¬ (a = 21 ∧ k = 4) := fun e3 => by rw [e3.1, e3.2] at hm; cases hm
          rw [hI]
          by_cases e4 : a = 18
          · have : q_c6 I1 (28 + 3 * ((nx + 39) % 40)) 18 18 k = I1 18 k := by
              unfold q_c6
              rw [x_u_ne _ _ (by omega), x_u_ne _ _ (by omega), x_u_ne _ _ (by omega), x_u_ne _ _ (by omega), x_u_ne _ _ (by omega), x_u_ne _ _ (by omega), x_cp_eq, if_neg (by omega), x_cp_eq, if_neg (by omega)]
            rw [e4, this, i1 _ _ (by omega)]
          · rw [hc6.1 a k (by omega), i1 a k e3]
  · have := q_St_cp (o := 18) (h1 na (by omega)) (by unfold q_pl; omega)
    rw [show q_pl nx (na + 1) na = 28 + 3 * ((nx + 39) % 40) by unfold q_pl; omega] at this
    exact q_St_eq this (fun k _ _ => x_u_ne _ _ (by omega)) (fun k _ => ⟨x_u_ne _ _ (by omega), x_u_ne _ _ (by omega)⟩)
  · rw [x_u_ne _ _ (by omega), hc6.1 21 4 (by omega), i2]
  · rw [x_u_same]; omega
  · rw [show q_pl ((nx + 39) % 40) na j = q_pl nx (na + 1) j by unfold q_pl; omega]
    have := q_St_other (s := 28 + 3 * ((nx + 39) % 40)) (o := 18) (h1 j (by omega)) (by omega) (by unfold q_pl; omega)
    exact q_St_eq this (fun k _ _ => x_u_ne _ _ (by unfold q_pl; omega)) (fun k _ => ⟨x_u_ne _ _ (by unfold q_pl; omega), x_u_ne _ _ (by unfold q_pl; omega)⟩)
