theorem am_c_iastore {Γ : am_G} {l : Launch} {mid d : Nat} {Q : am_Q} {p : Program} {e : Env} {R : Room} {s : State} {m : MethodId} {args : Array Value} {below : List Frame} {meth : Method} {c : Code} {Z : State → Prop} {K : am_K} {Cl : am_C} {n h : Nat} {ls st : List Value} {w : am_W} (hc : am_cx Γ l mid d Q p e R s m args below meth c Z) (hk : am_ck mid n h (.iastore)) (hK : ∀ n ls st w, K n ls st w → am_At Γ l mid p e R s m args below meth c Z n ls st w) (hs : am_stp Cl (am_bd mid) Q K (.iastore) n ls st w) : am_At Γ l mid p e R s m args below meth c Z n ls st w := by
  obtain ⟨hx, hb, hml, hown, hts, henv, hini, hfr, hlo, hbc, hbs, hsz, hret⟩ := hc
  intro H locs lc hr hcn hS hl hln
  simp only [am_ck, am_ck1, Bool.and_eq_true] at hk
  obtain ⟨hd, hn⟩ := hk
  have hd := am_dq_ok hd
  have hn := am_beq hn
  unfold am_stp at hs
  dsimp only at hs
  by_cases h204 : Nat.ble 204 w.2.2.2.2.1 = true
  · rw [h204, cond_true] at hs
    have h204 := Nat.le_of_ble_eq_true h204
    obtain ⟨x, r0, e0, hs0⟩ := am_pi_ex hs
    subst e0
    obtain ⟨i, r1, e1, hs1⟩ := am_pi_ex hs0
    subst e1
    obtain ⟨a, r2, e2, hs2⟩ := am_pr_ex hs1
    subst e2
    obtain ⟨⟨hsh, hin⟩, hsk⟩ := hs2
    obtain ⟨o1, o2, o3, o5⟩ := am_arr hr henv hsh (by decide) (by decide)
    have e0 : am_ar Γ w a = .inl (w.2.1 a) := by unfold am_ar; rw [hsh]; rfl
    rw [e0] at o5
    show W p l e R s m args below meth c H locs w.2.2.2.2.2.1 w.2.2.2.2.2.2 Z (F0 m ((am_ct mid).1.getD n 0) lc (.int x :: .int i :: am_cv Γ (.ref a) :: r2.map (am_cv Γ)))
    rw [am_cv_own o1 o3]
    refine va_iast hx hb henv.1 hr.2.1 hr.2.2.1 hS (a - 1) 0 o5 rfl hin hd (fun H1 locs1 hP1 hD1 hS1 => ?_)
    have e1 : am_cell Γ (am_sI w (am_u w.2.1 a i.toNatClampNeg x)) a = .inl (Γ.2.1 100, (w.1 a).2, .inl (upd (w.2.1 a) i.toNatClampNeg x)) := by
      unfold am_cell
      rw [if_neg (show ¬ (w.1 a).1 < 90 by rw [hsh]; decide)]
      show Sum.inl (Γ.2.1 (w.1 a).1, (w.1 a).2, am_ar Γ (am_sI w (am_u w.2.1 a i.toNatClampNeg x)) a) = _
      have e2 : am_ar Γ (am_sI w (am_u w.2.1 a i.toNatClampNeg x)) a = .inl (upd (w.2.1 a) i.toNatClampNeg x) := by
        unfold am_ar
        dsimp only
        rw [hsh]
        exact congrArg Sum.inl (funext fun j => by unfold am_u upd; rw [if_pos rfl])
      rw [e2, hsh]
    rw [← e1] at hP1 hD1
    have hqq := hK _ _ _ _ hsk H1 locs1 lc (am_up_rep hr o1 o2 rfl rfl (fun b j hb => by first | rfl | exact am_u_ne hb) (fun b j hb => by first | rfl | exact am_u_ne hb) (fun b j hb => by first | rfl | exact am_u_ne hb) (fun hh => by rw [hsh] at hh; omega) hP1 hD1 (fun hh => by omega)) hcn hS1 hl hln
    rw [hn] at hqq
    exact hqq
  · rw [Bool.eq_false_iff.mpr h204, cond_false] at hs
    exact hs.elim

theorem am_c_lastore {Γ : am_G} {l : Launch} {mid d : Nat} {Q : am_Q} {p : Program} {e : Env} {R : Room} {s : State} {m : MethodId} {args : Array Value} {below : List Frame} {meth : Method} {c : Code} {Z : State → Prop} {K : am_K} {Cl : am_C} {n h : Nat} {ls st : List Value} {w : am_W} (hc : am_cx Γ l mid d Q p e R s m args below meth c Z) (hk : am_ck mid n h (.lastore)) (hK : ∀ n ls st w, K n ls st w → am_At Γ l mid p e R s m args below meth c Z n ls st w) (hs : am_stp Cl (am_bd mid) Q K (.lastore) n ls st w) : am_At Γ l mid p e R s m args below meth c Z n ls st w := by
  obtain ⟨hx, hb, hml, hown, hts, henv, hini, hfr, hlo, hbc, hbs, hsz, hret⟩ := hc
  intro H locs lc hr hcn hS hl hln
  simp only [am_ck, am_ck1, Bool.and_eq_true] at hk
  obtain ⟨hd, hn⟩ := hk
  have hd := am_dq_ok hd
  have hn := am_beq hn
  unfold am_stp at hs
  dsimp only at hs
  by_cases h204 : Nat.ble 204 w.2.2.2.2.1 = true
  · rw [h204, cond_true] at hs
    have h204 := Nat.le_of_ble_eq_true h204
    obtain ⟨x, r0, e0, hs0⟩ := am_pl_ex hs
    subst e0
    obtain ⟨i, r1, e1, hs1⟩ := am_pi_ex hs0
    subst e1
    obtain ⟨a, r2, e2, hs2⟩ := am_pr_ex hs1
    subst e2
    obtain ⟨⟨hsh, hin⟩, hsk⟩ := hs2
    obtain ⟨o1, o2, o3, o5⟩ := am_arr hr henv hsh (by decide) (by decide)
    have e0 : am_ar Γ w a = .inr (.inl (w.2.2.1 a)) := by unfold am_ar; rw [hsh]; rfl
    rw [e0] at o5
    show W p l e R s m args below meth c H locs w.2.2.2.2.2.1 w.2.2.2.2.2.2 Z (F0 m ((am_ct mid).1.getD n 0) lc (.long x :: .int i :: am_cv Γ (.ref a) :: r2.map (am_cv Γ)))
    rw [am_cv_own o1 o3]
    refine va_last hx hb henv.1 hr.2.1 hr.2.2.1 hS (a - 1) 1 o5 rfl hin hd (fun H1 locs1 hP1 hD1 hS1 => ?_)
    have e1 : am_cell Γ (am_sL w (am_u w.2.2.1 a i.toNatClampNeg x)) a = .inl (Γ.2.1 101, (w.1 a).2, .inr (.inl (vp_updL (w.2.2.1 a) i.toNatClampNeg x))) := by
      unfold am_cell
      rw [if_neg (show ¬ (w.1 a).1 < 90 by rw [hsh]; decide)]
      show Sum.inl (Γ.2.1 (w.1 a).1, (w.1 a).2, am_ar Γ (am_sL w (am_u w.2.2.1 a i.toNatClampNeg x)) a) = _
      have e2 : am_ar Γ (am_sL w (am_u w.2.2.1 a i.toNatClampNeg x)) a = .inr (.inl (vp_updL (w.2.2.1 a) i.toNatClampNeg x)) := by
        unfold am_ar
        dsimp only
        rw [hsh]
        exact congrArg (fun f => Sum.inr (Sum.inl f)) (funext fun j => by unfold am_u vp_updL; rw [if_pos rfl])
      rw [e2, hsh]
    rw [← e1] at hP1 hD1
    have hqq := hK _ _ _ _ hsk H1 locs1 lc (am_up_rep hr o1 o2 rfl rfl (fun b j hb => by first | rfl | exact am_u_ne hb) (fun b j hb => by first | rfl | exact am_u_ne hb) (fun b j hb => by first | rfl | exact am_u_ne hb) (fun hh => by rw [hsh] at hh; omega) hP1 hD1 (fun hh => by omega)) hcn hS1 hl hln
    rw [hn] at hqq
    exact hqq
  · rw [Bool.eq_false_iff.mpr h204, cond_false] at hs
    exact hs.elim

theorem am_c_bastore {Γ : am_G} {l : Launch} {mid d : Nat} {Q : am_Q} {p : Program} {e : Env} {R : Room} {s : State} {m : MethodId} {args : Array Value} {below : List Frame} {meth : Method} {c : Code} {Z : State → Prop} {K : am_K} {Cl : am_C} {n h : Nat} {ls st : List Value} {w : am_W} (hc : am_cx Γ l mid d Q p e R s m args below meth c Z) (hk : am_ck mid n h (.bastore)) (hK : ∀ n ls st w, K n ls st w → am_At Γ l mid p e R s m args below meth c Z n ls st w) (hs : am_stp Cl (am_bd mid) Q K (.bastore) n ls st w) : am_At Γ l mid p e R s m args below meth c Z n ls st w := by
  obtain ⟨hx, hb, hml, hown, hts, henv, hini, hfr, hlo, hbc, hbs, hsz, hret⟩ := hc
  intro H locs lc hr hcn hS hl hln
  simp only [am_ck, am_ck1, Bool.and_eq_true] at hk
  obtain ⟨hd, hn⟩ := hk
  have hd := am_dq_ok hd
  have hn := am_beq hn
  unfold am_stp at hs
  dsimp only at hs
  by_cases h204 : Nat.ble 204 w.2.2.2.2.1 = true
  · rw [h204, cond_true] at hs
    have h204 := Nat.le_of_ble_eq_true h204
    obtain ⟨x, r0, e0, hs0⟩ := am_pi_ex hs
    subst e0
    obtain ⟨i, r1, e1, hs1⟩ := am_pi_ex hs0
    subst e1
    obtain ⟨a, r2, e2, hs2⟩ := am_pr_ex hs1
    subst e2
    rcases hs2 with ⟨⟨hsh, hin⟩, hsk⟩ | ⟨⟨hsh, hin⟩, h01, hsk⟩
    · obtain ⟨o1, o2, o3, o5⟩ := am_arr hr henv hsh (by decide) (by decide)
      have e0 : am_ar Γ w a = .inl (w.2.1 a) := by unfold am_ar; rw [hsh]; rfl
      rw [e0] at o5
      show W p l e R s m args below meth c H locs w.2.2.2.2.2.1 w.2.2.2.2.2.2 Z (F0 m ((am_ct mid).1.getD n 0) lc (.int x :: .int i :: am_cv Γ (.ref a) :: r2.map (am_cv Γ)))
      rw [am_cv_own o1 o3]
      refine va_bast hx hb henv.1 hr.2.1 hr.2.2.1 hS (a - 1) 2 o5 rfl hin hd (fun H1 locs1 hP1 hD1 hS1 => ?_)
      rw [vp_nar_byte] at hP1 hD1
      have e1 : am_cell Γ (am_sI w (am_u w.2.1 a i.toNatClampNeg x.toInt8.toInt32)) a = .inl (Γ.2.1 102, (w.1 a).2, .inl (upd (w.2.1 a) i.toNatClampNeg x.toInt8.toInt32)) := by
        unfold am_cell
        rw [if_neg (show ¬ (w.1 a).1 < 90 by rw [hsh]; decide)]
        show Sum.inl (Γ.2.1 (w.1 a).1, (w.1 a).2, am_ar Γ (am_sI w (am_u w.2.1 a i.toNatClampNeg x.toInt8.toInt32)) a) = _
        have e2 : am_ar Γ (am_sI w (am_u w.2.1 a i.toNatClampNeg x.toInt8.toInt32)) a = .inl (upd (w.2.1 a) i.toNatClampNeg x.toInt8.toInt32) := by
          unfold am_ar
          dsimp only
          rw [hsh]
          exact congrArg Sum.inl (funext fun j => by unfold am_u upd; rw [if_pos rfl])
        rw [e2, hsh]
      rw [← e1] at hP1 hD1
      have hqq := hK _ _ _ _ hsk H1 locs1 lc (am_up_rep hr o1 o2 rfl rfl (fun b j hb => by first | rfl | exact am_u_ne hb) (fun b j hb => by first | rfl | exact am_u_ne hb) (fun b j hb => by first | rfl | exact am_u_ne hb) (fun hh => by rw [hsh] at hh; omega) hP1 hD1 (fun hh => by omega)) hcn hS1 hl hln
      rw [hn] at hqq
      exact hqq
    · obtain ⟨o1, o2, o3, o5⟩ := am_arr hr henv hsh (by decide) (by decide)
      have e0 : am_ar Γ w a = .inl (w.2.1 a) := by unfold am_ar; rw [hsh]; rfl
      rw [e0] at o5
      show W p l e R s m args below meth c H locs w.2.2.2.2.2.1 w.2.2.2.2.2.2 Z (F0 m ((am_ct mid).1.getD n 0) lc (.int x :: .int i :: am_cv Γ (.ref a) :: r2.map (am_cv Γ)))
      rw [am_cv_own o1 o3]
      refine va_zast hx hb henv.1 hr.2.1 hr.2.2.1 hS (a - 1) 3 o5 rfl hin hd (fun H1 locs1 hP1 hD1 hS1 => ?_)
      have e9 : vp_nar .boolean x = x := by rcases h01 with rfl | rfl <;> rfl
      rw [e9] at hP1 hD1
      have e1 : am_cell Γ (am_sI w (am_u w.2.1 a i.toNatClampNeg x)) a = .inl (Γ.2.1 103, (w.1 a).2, .inl (upd (w.2.1 a) i.toNatClampNeg x)) := by
        unfold am_cell
        rw [if_neg (show ¬ (w.1 a).1 < 90 by rw [hsh]; decide)]
        show Sum.inl (Γ.2.1 (w.1 a).1, (w.1 a).2, am_ar Γ (am_sI w (am_u w.2.1 a i.toNatClampNeg x)) a) = _
        have e2 : am_ar Γ (am_sI w (am_u w.2.1 a i.toNatClampNeg x)) a = .inl (upd (w.2.1 a) i.toNatClampNeg x) := by
          unfold am_ar
          dsimp only
          rw [hsh]
          exact congrArg Sum.inl (funext fun j => by unfold am_u upd; rw [if_pos rfl])
        rw [e2, hsh]
      rw [← e1] at hP1 hD1
      have hqq := hK _ _ _ _ hsk H1 locs1 lc (am_up_rep hr o1 o2 rfl rfl (fun b j hb => by first | rfl | exact am_u_ne hb) (fun b j hb => by first | rfl | exact am_u_ne hb) (fun b j hb => by first | rfl | exact am_u_ne hb) (fun hh => by rw [hsh] at hh; omega) hP1 hD1 (fun hh => by omega)) hcn hS1 hl hln
      rw [hn] at hqq
      exact hqq
  · rw [Bool.eq_false_iff.mpr h204, cond_false] at hs
    exact hs.elim

theorem am_c_aastore {Γ : am_G} {l : Launch} {mid d : Nat} {Q : am_Q} {p : Program} {e : Env} {R : Room} {s : State} {m : MethodId} {args : Array Value} {below : List Frame} {meth : Method} {c : Code} {Z : State → Prop} {K : am_K} {Cl : am_C} {n h : Nat} {ls st : List Value} {w : am_W} (hc : am_cx Γ l mid d Q p e R s m args below meth c Z) (hk : am_ck mid n h (.aastore)) (hK : ∀ n ls st w, K n ls st w → am_At Γ l mid p e R s m args below meth c Z n ls st w) (hs : am_stp Cl (am_bd mid) Q K (.aastore) n ls st w) : am_At Γ l mid p e R s m args below meth c Z n ls st w := by
  obtain ⟨hx, hb, hml, hown, hts, henv, hini, hfr, hlo, hbc, hbs, hsz, hret⟩ := hc
  intro H locs lc hr hcn hS hl hln
  simp only [am_ck, am_ck1, Bool.and_eq_true] at hk
  obtain ⟨hd, hn⟩ := hk
  have hd := am_dq_ok hd
  have hn := am_beq hn
  unfold am_stp at hs
  dsimp only at hs
  obtain ⟨x, r0, e0, hs0⟩ := am_pr_ex hs
  subst e0
  obtain ⟨i, r1, e1, hs1⟩ := am_pi_ex hs0
  subst e1
  obtain ⟨a, r2, e2, hs2⟩ := am_pr_ex hs1
  subst e2
  obtain ⟨⟨hsh, hin⟩, hsk⟩ := hs2
  rcases hsh with hsh | hsh
  · obtain ⟨hsh, hxs⟩ := hsh
    obtain ⟨o1, o2, o3, o5⟩ := am_arr hr henv hsh (by decide) (by decide)
    have e0 : am_ar Γ w a = .inr (.inr (.inr (.inr (fun j => am_rq Γ (w.2.2.2.1 a j))))) := by unfold am_ar; rw [hsh]; rfl
    rw [e0] at o5
    obtain ⟨rc, hrc, hF, hN⟩ := am_cls_get (ci := 0) (by decide)
    obtain ⟨y1, y2, y3, y4, y5⟩ := am_obj hr henv (a := x) (ci := 0) (by decide) hxs
    show W p l e R s m args below meth c H locs w.2.2.2.2.2.1 w.2.2.2.2.2.2 Z (F0 m ((am_ct mid).1.getD n 0) lc (am_cv Γ (.ref x) :: .int i :: am_cv Γ (.ref a) :: r2.map (am_cv Γ)))
    rw [am_cv_own o1 o3, am_cv_own y1 y3]
    have hcn0 : rc.1 = "TeaTrolley$Law" := by cases hrc; rfl
    refine am_ast hx hb henv.1 hr.2.1 hr.2.2.1 hS (a - 1) 4 (x - 1) 0 o5 (by rw [hcn0]; rfl) y5 hrc hin hd (fun H1 locs1 hP1 hD1 hS1 hz1 => ?_)
    have e1 : am_cell Γ (am_sR w (am_u w.2.2.2.1 a i.toNatClampNeg x)) a = .inl (Γ.2.1 104, (w.1 a).2, .inr (.inr (.inr (.inr (va_up (fun j => am_rq Γ (w.2.2.2.1 a j)) i.toNatClampNeg (some (Γ.2.2.1 + x))))))) := by
      unfold am_cell
      rw [if_neg (show ¬ (w.1 a).1 < 90 by rw [hsh]; decide)]
      show Sum.inl (Γ.2.1 (w.1 a).1, (w.1 a).2, am_ar Γ (am_sR w (am_u w.2.2.2.1 a i.toNatClampNeg x)) a) = _
      have e2 : am_ar Γ (am_sR w (am_u w.2.2.2.1 a i.toNatClampNeg x)) a = .inr (.inr (.inr (.inr (va_up (fun j => am_rq Γ (w.2.2.2.1 a j)) i.toNatClampNeg (some (Γ.2.2.1 + x)))))) := by
        unfold am_ar
        dsimp only
        rw [hsh]
        refine congrArg (fun f => Sum.inr (Sum.inr (Sum.inr (Sum.inr f)))) (funext fun j => ?_)
        unfold am_u va_up
        rw [if_pos rfl]
        by_cases z : j = i.toNatClampNeg
        · rw [if_pos z, if_pos z]
          unfold am_rq
          rw [if_neg (by omega)]
        · rw [if_neg z, if_neg z]
      rw [e2, hsh]
    rw [← e1] at hP1 hD1
    have hRa : 104 ≤ (w.1 a).1 → ∀ j, am_u w.2.2.2.1 a i.toNatClampNeg x a j < 5000 := by
      intro hh j
      unfold am_u
      rw [if_pos rfl]
      by_cases z : j = i.toNatClampNeg
      · rw [if_pos z]; exact y3
      · rw [if_neg z]
        rcases hr.1.2.2.1 a o1 o2 with ⟨_, q2, _⟩ | ⟨_, _, q⟩
        · omega
        · exact q hh j
    have hqq := hK _ _ _ _ hsk H1 locs1 lc (am_up_rep hr o1 o2 rfl rfl (fun b j hb => by first | rfl | exact am_u_ne hb) (fun b j hb => by first | rfl | exact am_u_ne hb) (fun b j hb => by first | rfl | exact am_u_ne hb) hRa hP1 hD1 (fun _ => hz1)) hcn hS1 hl hln
    rw [hn] at hqq
    exact hqq
  · obtain ⟨hsh, hxs⟩ := hsh
    obtain ⟨o1, o2, o3, o5⟩ := am_arr hr henv hsh (by decide) (by decide)
    have e0 : am_ar Γ w a = .inr (.inr (.inr (.inr (fun j => am_rq Γ (w.2.2.2.1 a j))))) := by unfold am_ar; rw [hsh]; rfl
    rw [e0] at o5
    obtain ⟨rc, hrc, hF, hN⟩ := am_cls_get (ci := 7) (by decide)
    obtain ⟨y1, y2, y3, y4, y5⟩ := am_obj hr henv (a := x) (ci := 7) (by decide) hxs
    show W p l e R s m args below meth c H locs w.2.2.2.2.2.1 w.2.2.2.2.2.2 Z (F0 m ((am_ct mid).1.getD n 0) lc (am_cv Γ (.ref x) :: .int i :: am_cv Γ (.ref a) :: r2.map (am_cv Γ)))
    rw [am_cv_own o1 o3, am_cv_own y1 y3]
    have hcn0 : rc.1 = "TeaTrolley$State" := by cases hrc; rfl
    refine am_ast hx hb henv.1 hr.2.1 hr.2.2.1 hS (a - 1) 5 (x - 1) 7 o5 (by rw [hcn0]; rfl) y5 hrc hin hd (fun H1 locs1 hP1 hD1 hS1 hz1 => ?_)
    have e1 : am_cell Γ (am_sR w (am_u w.2.2.2.1 a i.toNatClampNeg x)) a = .inl (Γ.2.1 105, (w.1 a).2, .inr (.inr (.inr (.inr (va_up (fun j => am_rq Γ (w.2.2.2.1 a j)) i.toNatClampNeg (some (Γ.2.2.1 + x))))))) := by
      unfold am_cell
      rw [if_neg (show ¬ (w.1 a).1 < 90 by rw [hsh]; decide)]
      show Sum.inl (Γ.2.1 (w.1 a).1, (w.1 a).2, am_ar Γ (am_sR w (am_u w.2.2.2.1 a i.toNatClampNeg x)) a) = _
      have e2 : am_ar Γ (am_sR w (am_u w.2.2.2.1 a i.toNatClampNeg x)) a = .inr (.inr (.inr (.inr (va_up (fun j => am_rq Γ (w.2.2.2.1 a j)) i.toNatClampNeg (some (Γ.2.2.1 + x)))))) := by
        unfold am_ar
        dsimp only
        rw [hsh]
        refine congrArg (fun f => Sum.inr (Sum.inr (Sum.inr (Sum.inr f)))) (funext fun j => ?_)
        unfold am_u va_up
        rw [if_pos rfl]
        by_cases z : j = i.toNatClampNeg
        · rw [if_pos z, if_pos z]
          unfold am_rq
          rw [if_neg (by omega)]
        · rw [if_neg z, if_neg z]
      rw [e2, hsh]
    rw [← e1] at hP1 hD1
    have hRa : 104 ≤ (w.1 a).1 → ∀ j, am_u w.2.2.2.1 a i.toNatClampNeg x a j < 5000 := by
      intro hh j
      unfold am_u
      rw [if_pos rfl]
      by_cases z : j = i.toNatClampNeg
      · rw [if_pos z]; exact y3
      · rw [if_neg z]
        rcases hr.1.2.2.1 a o1 o2 with ⟨_, q2, _⟩ | ⟨_, _, q⟩
        · omega
        · exact q hh j
    have hqq := hK _ _ _ _ hsk H1 locs1 lc (am_up_rep hr o1 o2 rfl rfl (fun b j hb => by first | rfl | exact am_u_ne hb) (fun b j hb => by first | rfl | exact am_u_ne hb) (fun b j hb => by first | rfl | exact am_u_ne hb) hRa hP1 hD1 (fun _ => hz1)) hcn hS1 hl hln
    rw [hn] at hqq
    exact hqq
