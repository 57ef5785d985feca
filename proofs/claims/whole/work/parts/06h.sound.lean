theorem am_pw : ∀ w ∈ ([.static Lib.Math.min.name, .code Lib.Math.min.name Lib.Math.min.code 2 (some .int), .static Lib.Math.max.name, .code Lib.Math.max.name Lib.Math.max.code 2 (some .int), .static Lib.Math.abs.name, .code Lib.Math.abs.name Lib.Math.abs.code 1 (some .int), .static Lib.MathLoose.min_long.x, .code Lib.MathLoose.min_long.x Lib.MathLoose.min_long.code 4 (some .long), .static Lib.MathLoose.max_long.x, .code Lib.MathLoose.max_long.x Lib.MathLoose.max_long.code 4 (some .long), .initialized "java/lang/Math", .native arraycopyName, .static arraycopyName, .initialized "java/lang/System", .instanceMethod objectInit, .code objectInit ⟨#[0xb1]⟩ 1 none, .static yJ9_floorMod_7cf53, .code yJ9_floorMod_7cf53 cJ9_floorMod_7cf53 3 (some .int)] : List Cond), w ∈ lw_g := lw_g_of (ps := [617, 618, 614, 615, 823, 824, 968, 969, 971, 972, 121, 571, 570, 119, 136, 137, 1002, 1003]) (by decide +kernel) (by decide +kernel)
theorem am_pwi (i : Nat) {w : Cond} (h : ([.static Lib.Math.min.name, .code Lib.Math.min.name Lib.Math.min.code 2 (some .int), .static Lib.Math.max.name, .code Lib.Math.max.name Lib.Math.max.code 2 (some .int), .static Lib.Math.abs.name, .code Lib.Math.abs.name Lib.Math.abs.code 1 (some .int), .static Lib.MathLoose.min_long.x, .code Lib.MathLoose.min_long.x Lib.MathLoose.min_long.code 4 (some .long), .static Lib.MathLoose.max_long.x, .code Lib.MathLoose.max_long.x Lib.MathLoose.max_long.code 4 (some .long), .initialized "java/lang/Math", .native arraycopyName, .static arraycopyName, .initialized "java/lang/System", .instanceMethod objectInit, .code objectInit ⟨#[0xb1]⟩ 1 none, .static yJ9_floorMod_7cf53, .code yJ9_floorMod_7cf53 cJ9_floorMod_7cf53 3 (some .int)] : List Cond)[i]? = some w) : w ∈ lw_g := am_pw w (List.mem_of_getElem? h)

theorem am_cat_sum {Γ : am_G} (hcat : ∀ k, (am_cv Γ (.ref k)).category = 1) : ∀ r : List Value, ((r.map (am_cv Γ)).map fun v => v.category).sum = am_cat r
  | [] => rfl
  | v :: r => by
    rw [List.map_cons, List.map_cons, List.sum_cons, am_cat_sum hcat r]
    cases v with
    | ref k => rw [hcat k]; show 1 + am_cat r = am_cat r + 1; omega
    | long x => show 2 + am_cat r = am_cat r + 2; omega
    | double x => show 2 + am_cat r = am_cat r + 2; omega
    | int x => show 1 + am_cat r = am_cat r + 1; omega
    | float x => show 1 + am_cat r = am_cat r + 1; omega
    | null => show 1 + am_cat r = am_cat r + 1; omega
    | retAddr x => show 1 + am_cat r = am_cat r + 1; omega

theorem am_c_dmul {Γ : am_G} {l : Launch} {mid d : Nat} {Q : am_Q} {p : Program} {e : Env} {R : Room} {s : State} {m : MethodId} {args : Array Value} {below : List Frame} {meth : Method} {c : Code} {Z : State → Prop} {K : am_K} {Cl : am_C} {n h : Nat} {ls st : List Value} {w : am_W} (hc : am_cx Γ l mid d Q p e R s m args below meth c Z) (hk : am_ck mid n h (.dmul)) (hK : ∀ n ls st w, K n ls st w → am_At Γ l mid p e R s m args below meth c Z n ls st w) (hs : am_stp Cl (am_bd mid) Q K (.dmul) n ls st w) : am_At Γ l mid p e R s m args below meth c Z n ls st w := by
  obtain ⟨hx, hb, hml, hown, hts, henv, hini, hfr, hlo, hbc, hbs, hsz, hret⟩ := hc
  intro H locs lc hr hcn hS hl hln
  simp only [am_ck, am_ck1, Bool.and_eq_true] at hk
  obtain ⟨⟨hd, hn⟩, hm⟩ := hk
  have hd := am_dq_ok hd
  have hn := am_beq hn
  have hlk := hts _ (am_LP_in _ (List.mem_map_of_mem (am_m3_ok hm)))
  unfold am_stp at hs
  dsimp only at hs
  obtain ⟨y, r0, e0, hs0⟩ := am_pi_ex hs
  subst e0
  obtain ⟨x, r1, e1, hs1⟩ := am_pi_ex hs0
  subst e1
  by_cases h8 : Nat.ble (am_cat r1) 8 = true
  · rw [h8, cond_true] at hs1
    have h8 := Nat.le_of_ble_eq_true h8
    have hqq := hK _ _ _ _ hs1 H locs lc hr hcn hS hl hln
    rw [hn] at hqq
    exact va_mmin hx hb (by rw [hml, ← hln]; exact hl.1.symm) hown hlk (hts _ (am_pwi 0 rfl)) (hts _ (am_pwi 10 rfl)) (hts _ (am_pwi 1 rfl)) (by omega) (by rw [am_cat_sum (am_env_cat henv)]; omega) (Nat.le_trans hcn.1 hbc) (Nat.le_trans hcn.2 hbs) hd hqq
  · rw [Bool.eq_false_iff.mpr h8, cond_false] at hs1
    exact hs1.elim

theorem am_c_dadd {Γ : am_G} {l : Launch} {mid d : Nat} {Q : am_Q} {p : Program} {e : Env} {R : Room} {s : State} {m : MethodId} {args : Array Value} {below : List Frame} {meth : Method} {c : Code} {Z : State → Prop} {K : am_K} {Cl : am_C} {n h : Nat} {ls st : List Value} {w : am_W} (hc : am_cx Γ l mid d Q p e R s m args below meth c Z) (hk : am_ck mid n h (.dadd)) (hK : ∀ n ls st w, K n ls st w → am_At Γ l mid p e R s m args below meth c Z n ls st w) (hs : am_stp Cl (am_bd mid) Q K (.dadd) n ls st w) : am_At Γ l mid p e R s m args below meth c Z n ls st w := by
  obtain ⟨hx, hb, hml, hown, hts, henv, hini, hfr, hlo, hbc, hbs, hsz, hret⟩ := hc
  intro H locs lc hr hcn hS hl hln
  simp only [am_ck, am_ck1, Bool.and_eq_true] at hk
  obtain ⟨⟨hd, hn⟩, hm⟩ := hk
  have hd := am_dq_ok hd
  have hn := am_beq hn
  have hlk := hts _ (am_LP_in _ (List.mem_map_of_mem (am_m3_ok hm)))
  unfold am_stp at hs
  dsimp only at hs
  obtain ⟨y, r0, e0, hs0⟩ := am_pi_ex hs
  subst e0
  obtain ⟨x, r1, e1, hs1⟩ := am_pi_ex hs0
  subst e1
  by_cases h8 : Nat.ble (am_cat r1) 8 = true
  · rw [h8, cond_true] at hs1
    have h8 := Nat.le_of_ble_eq_true h8
    have hqq := hK _ _ _ _ hs1 H locs lc hr hcn hS hl hln
    rw [hn] at hqq
    exact va_mmax hx hb (by rw [hml, ← hln]; exact hl.1.symm) hown hlk (hts _ (am_pwi 2 rfl)) (hts _ (am_pwi 10 rfl)) (hts _ (am_pwi 3 rfl)) (by omega) (by rw [am_cat_sum (am_env_cat henv)]; omega) (Nat.le_trans hcn.1 hbc) (Nat.le_trans hcn.2 hbs) hd hqq
  · rw [Bool.eq_false_iff.mpr h8, cond_false] at hs1
    exact hs1.elim

theorem am_c_dneg {Γ : am_G} {l : Launch} {mid d : Nat} {Q : am_Q} {p : Program} {e : Env} {R : Room} {s : State} {m : MethodId} {args : Array Value} {below : List Frame} {meth : Method} {c : Code} {Z : State → Prop} {K : am_K} {Cl : am_C} {n h : Nat} {ls st : List Value} {w : am_W} (hc : am_cx Γ l mid d Q p e R s m args below meth c Z) (hk : am_ck mid n h (.dneg)) (hK : ∀ n ls st w, K n ls st w → am_At Γ l mid p e R s m args below meth c Z n ls st w) (hs : am_stp Cl (am_bd mid) Q K (.dneg) n ls st w) : am_At Γ l mid p e R s m args below meth c Z n ls st w := by
  obtain ⟨hx, hb, hml, hown, hts, henv, hini, hfr, hlo, hbc, hbs, hsz, hret⟩ := hc
  intro H locs lc hr hcn hS hl hln
  simp only [am_ck, am_ck1, Bool.and_eq_true] at hk
  obtain ⟨⟨hd, hn⟩, hm⟩ := hk
  have hd := am_dq_ok hd
  have hn := am_beq hn
  have hlk := hts _ (am_LP_in _ (List.mem_map_of_mem (am_m3_ok hm)))
  unfold am_stp at hs
  dsimp only at hs
  obtain ⟨x, r0, e0, hs0⟩ := am_pi_ex hs
  subst e0
  by_cases h8 : Nat.ble (am_cat r0) 8 = true
  · rw [h8, cond_true] at hs0
    have h8 := Nat.le_of_ble_eq_true h8
    have hqq := hK _ _ _ _ hs0 H locs lc hr hcn hS hl hln
    rw [hn] at hqq
    exact va_mabs hx hb (by rw [hml, ← hln]; exact hl.1.symm) hown hlk (hts _ (am_pwi 4 rfl)) (hts _ (am_pwi 10 rfl)) (hts _ (am_pwi 5 rfl)) (by omega) (by rw [am_cat_sum (am_env_cat henv)]; omega) (Nat.le_trans hcn.1 hbc) (Nat.le_trans hcn.2 hbs) hd hqq
  · rw [Bool.eq_false_iff.mpr h8, cond_false] at hs0
    exact hs0.elim

theorem am_c_fmul {Γ : am_G} {l : Launch} {mid d : Nat} {Q : am_Q} {p : Program} {e : Env} {R : Room} {s : State} {m : MethodId} {args : Array Value} {below : List Frame} {meth : Method} {c : Code} {Z : State → Prop} {K : am_K} {Cl : am_C} {n h : Nat} {ls st : List Value} {w : am_W} (hc : am_cx Γ l mid d Q p e R s m args below meth c Z) (hk : am_ck mid n h (.fmul)) (hK : ∀ n ls st w, K n ls st w → am_At Γ l mid p e R s m args below meth c Z n ls st w) (hs : am_stp Cl (am_bd mid) Q K (.fmul) n ls st w) : am_At Γ l mid p e R s m args below meth c Z n ls st w := by
  obtain ⟨hx, hb, hml, hown, hts, henv, hini, hfr, hlo, hbc, hbs, hsz, hret⟩ := hc
  intro H locs lc hr hcn hS hl hln
  simp only [am_ck, am_ck1, Bool.and_eq_true] at hk
  obtain ⟨⟨hd, hn⟩, hm⟩ := hk
  have hd := am_dq_ok hd
  have hn := am_beq hn
  have hlk := hts _ (am_LP_in _ (List.mem_map_of_mem (am_m3_ok hm)))
  unfold am_stp at hs
  dsimp only at hs
  obtain ⟨y, r0, e0, hs0⟩ := am_pl_ex hs
  subst e0
  obtain ⟨x, r1, e1, hs1⟩ := am_pl_ex hs0
  subst e1
  by_cases h8 : Nat.ble (am_cat r1) 8 = true
  · rw [h8, cond_true] at hs1
    have h8 := Nat.le_of_ble_eq_true h8
    have hqq := hK _ _ _ _ hs1 H locs lc hr hcn hS hl hln
    rw [hn] at hqq
    exact va_mmin_long hx hb (by rw [hml, ← hln]; exact hl.1.symm) hown hlk (hts _ (am_pwi 6 rfl)) (hts _ (am_pwi 10 rfl)) (hts _ (am_pwi 7 rfl)) (by omega) (by rw [am_cat_sum (am_env_cat henv)]; omega) (Nat.le_trans hcn.1 hbc) (Nat.le_trans hcn.2 hbs) hd hqq
  · rw [Bool.eq_false_iff.mpr h8, cond_false] at hs1
    exact hs1.elim

theorem am_c_fadd {Γ : am_G} {l : Launch} {mid d : Nat} {Q : am_Q} {p : Program} {e : Env} {R : Room} {s : State} {m : MethodId} {args : Array Value} {below : List Frame} {meth : Method} {c : Code} {Z : State → Prop} {K : am_K} {Cl : am_C} {n h : Nat} {ls st : List Value} {w : am_W} (hc : am_cx Γ l mid d Q p e R s m args below meth c Z) (hk : am_ck mid n h (.fadd)) (hK : ∀ n ls st w, K n ls st w → am_At Γ l mid p e R s m args below meth c Z n ls st w) (hs : am_stp Cl (am_bd mid) Q K (.fadd) n ls st w) : am_At Γ l mid p e R s m args below meth c Z n ls st w := by
  obtain ⟨hx, hb, hml, hown, hts, henv, hini, hfr, hlo, hbc, hbs, hsz, hret⟩ := hc
  intro H locs lc hr hcn hS hl hln
  simp only [am_ck, am_ck1, Bool.and_eq_true] at hk
  obtain ⟨⟨hd, hn⟩, hm⟩ := hk
  have hd := am_dq_ok hd
  have hn := am_beq hn
  have hlk := hts _ (am_LP_in _ (List.mem_map_of_mem (am_m3_ok hm)))
  unfold am_stp at hs
  dsimp only at hs
  obtain ⟨y, r0, e0, hs0⟩ := am_pl_ex hs
  subst e0
  obtain ⟨x, r1, e1, hs1⟩ := am_pl_ex hs0
  subst e1
  by_cases h8 : Nat.ble (am_cat r1) 8 = true
  · rw [h8, cond_true] at hs1
    have h8 := Nat.le_of_ble_eq_true h8
    have hqq := hK _ _ _ _ hs1 H locs lc hr hcn hS hl hln
    rw [hn] at hqq
    exact va_mmax_long hx hb (by rw [hml, ← hln]; exact hl.1.symm) hown hlk (hts _ (am_pwi 8 rfl)) (hts _ (am_pwi 10 rfl)) (hts _ (am_pwi 9 rfl)) (by omega) (by rw [am_cat_sum (am_env_cat henv)]; omega) (Nat.le_trans hcn.1 hbc) (Nat.le_trans hcn.2 hbs) hd hqq
  · rw [Bool.eq_false_iff.mpr h8, cond_false] at hs1
    exact hs1.elim

theorem am_c_pop2 {Γ : am_G} {l : Launch} {mid d : Nat} {Q : am_Q} {p : Program} {e : Env} {R : Room} {s : State} {m : MethodId} {args : Array Value} {below : List Frame} {meth : Method} {c : Code} {Z : State → Prop} {K : am_K} {Cl : am_C} {n h : Nat} {ls st : List Value} {w : am_W} (hc : am_cx Γ l mid d Q p e R s m args below meth c Z) (hk : am_ck mid n h (.pop2)) (hK : ∀ n ls st w, K n ls st w → am_At Γ l mid p e R s m args below meth c Z n ls st w) (hs : am_stp Cl (am_bd mid) Q K (.pop2) n ls st w) : am_At Γ l mid p e R s m args below meth c Z n ls st w := by
  obtain ⟨hx, hb, hml, hown, hts, henv, hini, hfr, hlo, hbc, hbs, hsz, hret⟩ := hc
  intro H locs lc hr hcn hS hl hln
  simp only [am_ck, am_ck1, Bool.and_eq_true] at hk
  obtain ⟨⟨hd, hn⟩, hm⟩ := hk
  have hd := am_dq_ok hd
  have hn := am_beq hn
  have hlk := hts _ (am_LP_in _ (List.mem_map_of_mem (am_m3_ok hm)))
  unfold am_stp at hs
  dsimp only at hs
  obtain ⟨a, r0, e0, hs0⟩ := am_pr_ex hs
  subst e0
  obtain ⟨ha1, ha2, hs0⟩ := hs0
  by_cases h8 : Nat.ble (am_cat r0) 8 = true
  · rw [h8, cond_true] at hs0
    have h8 := Nat.le_of_ble_eq_true h8
    have hqq := hK _ _ _ _ hs0 H locs lc hr hcn hS hl hln
    rw [hn] at hqq
    show W p l e R s m args below meth c H locs w.2.2.2.2.2.1 w.2.2.2.2.2.2 Z (F0 m ((am_ct mid).1.getD n 0) lc (am_cv Γ (.ref a) :: r0.map (am_cv Γ)))
    rw [am_cv_own ha1 ha2]
    exact W.objInit hx hb hown hlk (hts _ (am_pwi 14 rfl)) (hts _ (am_pwi 15 rfl)) rfl (by rw [hml, ← hln]; exact hl.1) rfl hd (by omega) (by rw [am_cat_sum (am_env_cat henv)]; show 2 * 0 + _ + 12 ≤ _; omega) hqq
  · rw [Bool.eq_false_iff.mpr h8, cond_false] at hs0
    exact hs0.elim

theorem am_LS_5 : ∀ x ∈ am_LS, 5000 ≤ x.2.2.1 := by decide +kernel

theorem am_c_ldc {Γ : am_G} {l : Launch} {mid d : Nat} {Q : am_Q} {p : Program} {e : Env} {R : Room} {s : State} {m : MethodId} {args : Array Value} {below : List Frame} {meth : Method} {c : Code} {Z : State → Prop} {K : am_K} {Cl : am_C} {n h : Nat} {ls st : List Value} {w : am_W} {a : Nat} (hc : am_cx Γ l mid d Q p e R s m args below meth c Z) (hk : am_ck mid n h (.ldc a)) (hK : ∀ n ls st w, K n ls st w → am_At Γ l mid p e R s m args below meth c Z n ls st w) (hs : am_stp Cl (am_bd mid) Q K (.ldc a) n ls st w) : am_At Γ l mid p e R s m args below meth c Z n ls st w := by
  obtain ⟨hx, hb, hml, hown, hts, henv, hini, hfr, hlo, hbc, hbs, hsz, hret⟩ := hc
  intro H locs lc hr hcn hS hl hln
  unfold am_ck am_ck1 at hk
  dsimp only at hk
  unfold am_stp at hs
  dsimp only at hs
  have hq := hK _ _ _ _ hs H locs lc hr hcn hS hl hln
  have hq : W p l e R s m args below meth c H locs w.2.2.2.2.2.1 w.2.2.2.2.2.2 Z (F0 m ((am_ct mid).1.getD (n + 1) 0) lc (am_cv Γ (.ref a) :: st.map (am_cv Γ))) := hq
  by_cases hh : Nat.beq (h % 2) 0 = true
  · rw [hh, cond_true] at hk
    simp only [Bool.and_eq_true] at hk
    obtain ⟨⟨hd, hn⟩, hm⟩ := hk
    have hm := am_m4_ok hm
    obtain ⟨q, tx, hv, hR⟩ := henv.2.2.2.1 _ hm
    have h5 := am_LS_5 _ hm
    rw [am_beq hn, am_cv_ro h5, hv] at hq
    exact va_ldcS hx hb hown hR (am_dq_ok hd) hq
  · rw [Bool.eq_false_iff.mpr hh, cond_false] at hk
    simp only [Bool.and_eq_true] at hk
    obtain ⟨⟨hd, hn⟩, hm⟩ := hk
    have hm := am_m4_ok hm
    obtain ⟨q, tx, hv, hR⟩ := henv.2.2.2.1 _ hm
    have h5 := am_LS_5 _ hm
    rw [am_beq hn, am_cv_ro h5, hv] at hq
    intro T hT X
    obtain ⟨t, a1, b1⟩ := hq T hT X
    exact ⟨t, Jvm.Stand.ldcStringW X hx hown (text := tx) (a := q) hR.1 hR.2 (g := F0 m ((am_ct mid).1.getD n 0) lc (st.map (am_cv Γ))) rfl (by rw [hb]; exact am_dq_ok hd) t a1, b1⟩
