theorem am_c_iaload {Γ : am_G} {l : Launch} {mid d : Nat} {Q : am_Q} {p : Program} {e : Env} {R : Room} {s : State} {m : MethodId} {args : Array Value} {below : List Frame} {meth : Method} {c : Code} {Z : State → Prop} {K : am_K} {Cl : am_C} {n h : Nat} {ls st : List Value} {w : am_W} (hc : am_cx Γ l mid d Q p e R s m args below meth c Z) (hk : am_ck mid n h (.iaload)) (hK : ∀ n ls st w, K n ls st w → am_At Γ l mid p e R s m args below meth c Z n ls st w) (hs : am_stp Cl (am_bd mid) Q K (.iaload) n ls st w) : am_At Γ l mid p e R s m args below meth c Z n ls st w := by
  obtain ⟨hx, hb, hml, hown, hts, henv, hini, hfr, hlo, hbc, hbs, hsz, hret⟩ := hc
  intro H locs lc hr hcn hS hl hln
  simp only [am_ck, am_ck1, Bool.and_eq_true] at hk
  obtain ⟨hd, hn⟩ := hk
  have hd := am_dq_ok hd
  have hn := am_beq hn
  unfold am_stp at hs
  dsimp only at hs
  obtain ⟨i, r0, e0, hs0⟩ := am_pi_ex hs
  subst e0
  obtain ⟨a, r1, e1, hs1⟩ := am_pr_ex hs0
  subst e1
  obtain ⟨⟨hsh, hin⟩, hsk⟩ := hs1
  obtain ⟨o1, o2, o3, o5⟩ := am_arr hr henv hsh (by decide) (by decide)
  have e0 : am_ar Γ w a = .inl (w.2.1 a) := by unfold am_ar; rw [hsh]; rfl
  rw [e0] at o5
  show W p l e R s m args below meth c H locs w.2.2.2.2.2.1 w.2.2.2.2.2.2 Z (F0 m ((am_ct mid).1.getD n 0) lc (.int i :: am_cv Γ (.ref a) :: r1.map (am_cv Γ)))
  rw [am_cv_own o1 o3]
  have hqq := hK _ _ _ _ hsk H locs lc hr hcn hS hl hln
  rw [hn] at hqq
  exact va_iald hx hb henv.1 hr.2.1 (a - 1) 0 o5 rfl hin hd hqq

theorem am_c_laload {Γ : am_G} {l : Launch} {mid d : Nat} {Q : am_Q} {p : Program} {e : Env} {R : Room} {s : State} {m : MethodId} {args : Array Value} {below : List Frame} {meth : Method} {c : Code} {Z : State → Prop} {K : am_K} {Cl : am_C} {n h : Nat} {ls st : List Value} {w : am_W} (hc : am_cx Γ l mid d Q p e R s m args below meth c Z) (hk : am_ck mid n h (.laload)) (hK : ∀ n ls st w, K n ls st w → am_At Γ l mid p e R s m args below meth c Z n ls st w) (hs : am_stp Cl (am_bd mid) Q K (.laload) n ls st w) : am_At Γ l mid p e R s m args below meth c Z n ls st w := by
  obtain ⟨hx, hb, hml, hown, hts, henv, hini, hfr, hlo, hbc, hbs, hsz, hret⟩ := hc
  intro H locs lc hr hcn hS hl hln
  simp only [am_ck, am_ck1, Bool.and_eq_true] at hk
  obtain ⟨hd, hn⟩ := hk
  have hd := am_dq_ok hd
  have hn := am_beq hn
  unfold am_stp at hs
  dsimp only at hs
  obtain ⟨i, r0, e0, hs0⟩ := am_pi_ex hs
  subst e0
  obtain ⟨a, r1, e1, hs1⟩ := am_pr_ex hs0
  subst e1
  obtain ⟨⟨hsh, hin⟩, hsk⟩ := hs1
  obtain ⟨o1, o2, o3, o5⟩ := am_arr hr henv hsh (by decide) (by decide)
  have e0 : am_ar Γ w a = .inr (.inl (w.2.2.1 a)) := by unfold am_ar; rw [hsh]; rfl
  rw [e0] at o5
  show W p l e R s m args below meth c H locs w.2.2.2.2.2.1 w.2.2.2.2.2.2 Z (F0 m ((am_ct mid).1.getD n 0) lc (.int i :: am_cv Γ (.ref a) :: r1.map (am_cv Γ)))
  rw [am_cv_own o1 o3]
  have hqq := hK _ _ _ _ hsk H locs lc hr hcn hS hl hln
  rw [hn] at hqq
  exact va_lald hx hb henv.1 hr.2.1 (a - 1) 1 o5 rfl hin hd hqq

theorem am_ro {Γ : am_G} {w : am_W} {H : Heap} (hr : am_rep Γ w H) {a kd : Nat} (h : (w.1 a).1 = kd) (h0 : kd = 200 ∨ kd = 202 ∨ kd = 90) : 5000 ≤ a := by
  rcases Nat.lt_or_ge a 5000 with g | g
  · exfalso
    rcases Nat.eq_zero_or_pos a with z | z
    · have := hr.1.1 a (Or.inl z); omega
    · rcases Nat.lt_or_ge a w.2.2.2.2.1 with y | y
      · rcases hr.1.2.2.1 a z y with ⟨_, y2, _⟩ | ⟨y1, y2, _⟩ <;> omega
      · have := hr.1.1 a (Or.inr ⟨y, g⟩); omega
  · exact g
theorem am_ro1 {Γ : am_G} {w : am_W} {H : Heap} {U : State} {H' : Heap} (hr : am_rep Γ w H) (he : am_env Γ U H') {a : Nat} (h : (w.1 a).1 = 200) : 5000 ≤ a ∧ ∃ t, Γ.2.2.2.1 a = .ref t ∧ va_T .int t (Γ.2.2.2.2.1 a).2 (fun j => .int (Γ.2.2.2.2.2 a j)) (am_A Γ) U H' := by
  have ha := am_ro hr h (Or.inl rfl)
  rw [(hr.1.2.2.2 a ha).1] at h
  rcases he.2.1 a ha with g | ⟨g, t, g2, g3⟩ | ⟨g, -⟩ | ⟨g, -⟩
  · omega
  · exact ⟨ha, t, g2, g3⟩
  · omega
  · omega
theorem am_ro2 {Γ : am_G} {w : am_W} {H : Heap} {U : State} {H' : Heap} (hr : am_rep Γ w H) (he : am_env Γ U H') {a : Nat} (h : (w.1 a).1 = 202) : 5000 ≤ a ∧ ∃ t, Γ.2.2.2.1 a = .ref t ∧ va_T .byte t (Γ.2.2.2.2.1 a).2 (fun j => .int (Γ.2.2.2.2.2 a j)) (am_A Γ) U H' := by
  have ha := am_ro hr h (Or.inr (Or.inl rfl))
  rw [(hr.1.2.2.2 a ha).1] at h
  rcases he.2.1 a ha with g | ⟨g, -⟩ | ⟨g, t, g2, g3⟩ | ⟨g, -⟩
  · omega
  · omega
  · exact ⟨ha, t, g2, g3⟩
  · omega

theorem am_c_baload {Γ : am_G} {l : Launch} {mid d : Nat} {Q : am_Q} {p : Program} {e : Env} {R : Room} {s : State} {m : MethodId} {args : Array Value} {below : List Frame} {meth : Method} {c : Code} {Z : State → Prop} {K : am_K} {Cl : am_C} {n h : Nat} {ls st : List Value} {w : am_W} (hc : am_cx Γ l mid d Q p e R s m args below meth c Z) (hk : am_ck mid n h (.baload)) (hK : ∀ n ls st w, K n ls st w → am_At Γ l mid p e R s m args below meth c Z n ls st w) (hs : am_stp Cl (am_bd mid) Q K (.baload) n ls st w) : am_At Γ l mid p e R s m args below meth c Z n ls st w := by
  obtain ⟨hx, hb, hml, hown, hts, henv, hini, hfr, hlo, hbc, hbs, hsz, hret⟩ := hc
  intro H locs lc hr hcn hS hl hln
  simp only [am_ck, am_ck1, Bool.and_eq_true] at hk
  obtain ⟨hd, hn⟩ := hk
  have hd := am_dq_ok hd
  have hn := am_beq hn
  unfold am_stp at hs
  dsimp only at hs
  obtain ⟨i, r0, e0, hs0⟩ := am_pi_ex hs
  subst e0
  obtain ⟨a, r1, e1, hs1⟩ := am_pr_ex hs0
  subst e1
  obtain ⟨⟨hsh, hin⟩, hsk⟩ := hs1
  have hqq := hK _ _ _ _ hsk H locs lc hr hcn hS hl hln
  rw [hn] at hqq
  show W p l e R s m args below meth c H locs w.2.2.2.2.2.1 w.2.2.2.2.2.2 Z (F0 m ((am_ct mid).1.getD n 0) lc (.int i :: am_cv Γ (.ref a) :: r1.map (am_cv Γ)))
  rcases hsh with hsh | hsh | hsh
  · obtain ⟨o1, o2, o3, o5⟩ := am_arr hr henv hsh (by decide) (by decide)
    have e0 : am_ar Γ w a = .inl (w.2.1 a) := by unfold am_ar; rw [hsh]; rfl
    rw [e0] at o5
    rw [am_cv_own o1 o3]
    exact va_bald hx hb henv.1 hr.2.1 (a - 1) 2 o5 rfl hin hd hqq
  · obtain ⟨o1, o2, o3, o5⟩ := am_arr hr henv hsh (by decide) (by decide)
    have e0 : am_ar Γ w a = .inl (w.2.1 a) := by unfold am_ar; rw [hsh]; rfl
    rw [e0] at o5
    rw [am_cv_own o1 o3]
    exact va_zald hx hb henv.1 hr.2.1 (a - 1) 3 o5 rfl hin hd hqq
  · obtain ⟨ha, t, hv, hT⟩ := am_ro2 hr henv hsh
    rw [am_cv_ro ha, hv]
    obtain ⟨ro1, ro2, ro3⟩ := hr.1.2.2.2 a ha
    rw [ro1] at hin
    refine va_tb hx hb hT hS hin rfl hd ?_
    have hqq : W p l e R s m args below meth c H locs w.2.2.2.2.2.1 w.2.2.2.2.2.2 Z (F0 m ((am_ct mid).1.getD n 0 + 1) lc (.int (w.2.1 a i.toNatClampNeg) :: r1.map (am_cv Γ))) := hqq
    rw [ro2] at hqq
    exact hqq

theorem am_c_saload {Γ : am_G} {l : Launch} {mid d : Nat} {Q : am_Q} {p : Program} {e : Env} {R : Room} {s : State} {m : MethodId} {args : Array Value} {below : List Frame} {meth : Method} {c : Code} {Z : State → Prop} {K : am_K} {Cl : am_C} {n h : Nat} {ls st : List Value} {w : am_W} (hc : am_cx Γ l mid d Q p e R s m args below meth c Z) (hk : am_ck mid n h (.saload)) (hK : ∀ n ls st w, K n ls st w → am_At Γ l mid p e R s m args below meth c Z n ls st w) (hs : am_stp Cl (am_bd mid) Q K (.saload) n ls st w) : am_At Γ l mid p e R s m args below meth c Z n ls st w := by
  obtain ⟨hx, hb, hml, hown, hts, henv, hini, hfr, hlo, hbc, hbs, hsz, hret⟩ := hc
  intro H locs lc hr hcn hS hl hln
  simp only [am_ck, am_ck1, Bool.and_eq_true] at hk
  obtain ⟨hd, hn⟩ := hk
  have hd := am_dq_ok hd
  have hn := am_beq hn
  unfold am_stp at hs
  dsimp only at hs
  obtain ⟨i, r0, e0, hs0⟩ := am_pi_ex hs
  subst e0
  obtain ⟨a, r1, e1, hs1⟩ := am_pr_ex hs0
  subst e1
  obtain ⟨⟨hsh, hin⟩, hsk⟩ := hs1
  have hqq := hK _ _ _ _ hsk H locs lc hr hcn hS hl hln
  rw [hn] at hqq
  show W p l e R s m args below meth c H locs w.2.2.2.2.2.1 w.2.2.2.2.2.2 Z (F0 m ((am_ct mid).1.getD n 0) lc (.int i :: am_cv Γ (.ref a) :: r1.map (am_cv Γ)))
  obtain ⟨ha, t, hv, hT⟩ := am_ro1 hr henv hsh
  rw [am_cv_ro ha, hv]
  obtain ⟨ro1, ro2, ro3⟩ := hr.1.2.2.2 a ha
  rw [ro1] at hin
  refine va_ti hx hb hT hS hin rfl hd ?_
  have hqq : W p l e R s m args below meth c H locs w.2.2.2.2.2.1 w.2.2.2.2.2.2 Z (F0 m ((am_ct mid).1.getD n 0 + 1) lc (.int (w.2.1 a i.toNatClampNeg) :: r1.map (am_cv Γ))) := hqq
  rw [ro2] at hqq
  exact hqq

theorem am_c_aaload {Γ : am_G} {l : Launch} {mid d : Nat} {Q : am_Q} {p : Program} {e : Env} {R : Room} {s : State} {m : MethodId} {args : Array Value} {below : List Frame} {meth : Method} {c : Code} {Z : State → Prop} {K : am_K} {Cl : am_C} {n h : Nat} {ls st : List Value} {w : am_W} (hc : am_cx Γ l mid d Q p e R s m args below meth c Z) (hk : am_ck mid n h (.aaload)) (hK : ∀ n ls st w, K n ls st w → am_At Γ l mid p e R s m args below meth c Z n ls st w) (hs : am_stp Cl (am_bd mid) Q K (.aaload) n ls st w) : am_At Γ l mid p e R s m args below meth c Z n ls st w := by
  obtain ⟨hx, hb, hml, hown, hts, henv, hini, hfr, hlo, hbc, hbs, hsz, hret⟩ := hc
  intro H locs lc hr hcn hS hl hln
  simp only [am_ck, am_ck1, Bool.and_eq_true] at hk
  obtain ⟨hd, hn⟩ := hk
  have hd := am_dq_ok hd
  have hn := am_beq hn
  unfold am_stp at hs
  dsimp only at hs
  obtain ⟨i, r0, e0, hs0⟩ := am_pi_ex hs
  subst e0
  obtain ⟨a, r1, e1, hs1⟩ := am_pr_ex hs0
  subst e1
  obtain ⟨⟨hsh, hin⟩, hsk⟩ := hs1
  have hqq := hK _ _ _ _ hsk H locs lc hr hcn hS hl hln
  rw [hn] at hqq
  show W p l e R s m args below meth c H locs w.2.2.2.2.2.1 w.2.2.2.2.2.2 Z (F0 m ((am_ct mid).1.getD n 0) lc (.int i :: am_cv Γ (.ref a) :: r1.map (am_cv Γ)))
  have hge : 104 ≤ (w.1 a).1 ∧ (w.1 a).1 ≤ 106 := by omega
  obtain ⟨o1, o2, o3, o5⟩ := am_arr hr henv (a := a) rfl (by omega) (by omega)
  have e0 : am_ar Γ w a = .inr (.inr (.inr (.inr (fun j => am_rq Γ (w.2.2.2.1 a j))))) := by unfold am_ar; rw [if_neg (by omega), if_pos hge.1]
  rw [e0] at o5
  rw [am_cv_own o1 o3]
  have hlt : w.2.2.2.1 a i.toNatClampNeg < 5000 := by
    rcases hr.1.2.2.1 a o1 o2 with ⟨_, y2, _⟩ | ⟨_, _, y⟩
    · omega
    · exact y hge.1 _
  have e1 : am_cv Γ (.ref (w.2.2.2.1 a i.toNatClampNeg)) = va_rf (am_rq Γ (w.2.2.2.1 a i.toNatClampNeg)) := by
    rw [am_cv_eq]
    unfold am_rq
    by_cases z : w.2.2.2.1 a i.toNatClampNeg = 0
    · rw [if_pos z, if_pos z]; rfl
    · rw [if_neg z, if_neg z, if_pos hlt]; rfl
  have hqq : W p l e R s m args below meth c H locs w.2.2.2.2.2.1 w.2.2.2.2.2.2 Z (F0 m ((am_ct mid).1.getD n 0 + 1) lc (am_cv Γ (.ref (w.2.2.2.1 a i.toNatClampNeg)) :: r1.map (am_cv Γ))) := hqq
  rw [e1] at hqq
  have hlt2 : i.toNatClampNeg < (w.1 a).2 := Nat.not_le.mp fun q => hin (Or.inr q)
  rcases hsh with hsh | hsh | hsh <;> rw [hsh] at o5
  · exact va_aldq hx hb henv.1 hr.2.1 (a - 1) 4 o5 rfl hin hd hqq
  · exact va_aldq hx hb henv.1 hr.2.1 (a - 1) 5 o5 rfl hin hd hqq
  · exact W.aald (v := va_rf (am_rq Γ (w.2.2.2.1 a i.toNatClampNeg))) (ty := .array .int) hx hb (hr.2.1 (a - 1) _ o5) ((henv.1.2 6 _ rfl).1 (w.1 a).2 (fun j => va_rf (am_rq Γ (w.2.2.2.1 a j)))) rfl (fun q => by cases q) (by show ¬ (i < 0 ∨ (arrV _ _ _).slots.size ≤ _); rw [arrV_size]; exact hin) (by show (arrV _ _ _).slots[_]? = _; rw [arrV_read _ _ hlt2]) rfl rfl hd hqq

theorem am_c_arraylength {Γ : am_G} {l : Launch} {mid d : Nat} {Q : am_Q} {p : Program} {e : Env} {R : Room} {s : State} {m : MethodId} {args : Array Value} {below : List Frame} {meth : Method} {c : Code} {Z : State → Prop} {K : am_K} {Cl : am_C} {n h : Nat} {ls st : List Value} {w : am_W} (hc : am_cx Γ l mid d Q p e R s m args below meth c Z) (hk : am_ck mid n h (.arraylength)) (hK : ∀ n ls st w, K n ls st w → am_At Γ l mid p e R s m args below meth c Z n ls st w) (hs : am_stp Cl (am_bd mid) Q K (.arraylength) n ls st w) : am_At Γ l mid p e R s m args below meth c Z n ls st w := by
  obtain ⟨hx, hb, hml, hown, hts, henv, hini, hfr, hlo, hbc, hbs, hsz, hret⟩ := hc
  intro H locs lc hr hcn hS hl hln
  simp only [am_ck, am_ck1, Bool.and_eq_true] at hk
  obtain ⟨hd, hn⟩ := hk
  have hd := am_dq_ok hd
  have hn := am_beq hn
  unfold am_stp at hs
  dsimp only at hs
  obtain ⟨a, r0, e0, hs0⟩ := am_pr_ex hs
  subst e0
  obtain ⟨hsh, hsk⟩ := hs0
  have hqq := hK _ _ _ _ hsk H locs lc hr hcn hS hl hln
  rw [hn] at hqq
  show W p l e R s m args below meth c H locs w.2.2.2.2.2.1 w.2.2.2.2.2.2 Z (F0 m ((am_ct mid).1.getD n 0) lc (am_cv Γ (.ref a) :: r0.map (am_cv Γ)))
  rcases Nat.lt_or_ge a 5000 with ha | ha
  · have ho : 1 ≤ a ∧ a < w.2.2.2.2.1 := by
      rcases Nat.eq_zero_or_pos a with z | z
      · have := hr.1.1 a (Or.inl z); omega
      · rcases Nat.lt_or_ge a w.2.2.2.2.1 with y | y
        · exact ⟨z, y⟩
        · have := hr.1.1 a (Or.inr ⟨y, ha⟩); omega
    have h106 : (w.1 a).1 ≤ 106 := by
      rcases hr.1.2.2.1 a ho.1 ho.2 with ⟨_, y2, _⟩ | ⟨y1, y2, _⟩ <;> omega
    obtain ⟨o1, o2, o3, o5⟩ := am_arr hr henv (a := a) rfl hsh.1 h106
    rw [am_cv_own o1 o3]
    have hty : ∃ (t0 : Nat) (ty : FieldType), (am_tys Γ)[t0]? = some (Γ.2.1 (w.1 a).1, ty) := by
      have : (w.1 a).1 = 100 ∨ (w.1 a).1 = 101 ∨ (w.1 a).1 = 102 ∨ (w.1 a).1 = 103 ∨ (w.1 a).1 = 104 ∨ (w.1 a).1 = 105 ∨ (w.1 a).1 = 106 := by omega
      rcases this with z | z | z | z | z | z | z <;> rw [z]
      · exact ⟨0, _, rfl⟩
      · exact ⟨1, _, rfl⟩
      · exact ⟨2, _, rfl⟩
      · exact ⟨3, _, rfl⟩
      · exact ⟨4, _, rfl⟩
      · exact ⟨5, _, rfl⟩
      · exact ⟨6, _, rfl⟩
    obtain ⟨t0, ty, hty⟩ := hty
    exact va_alen hx hb henv.1 hr.2.1 (a - 1) t0 o5 hty rfl hd hqq
  · obtain ⟨ro1, ro2, ro3⟩ := hr.1.2.2.2 a ha
    rw [am_cv_ro ha]
    rcases henv.2.1 a ha with g | ⟨g, t, hv, hT⟩ | ⟨g, t, hv, hT⟩ | ⟨g, -⟩
    · rw [ro1] at hsh; omega
    · rw [hv]
      refine va_tlen hx hb hT hS rfl hd ?_
      have hqq : W p l e R s m args below meth c H locs w.2.2.2.2.2.1 w.2.2.2.2.2.2 Z (F0 m ((am_ct mid).1.getD n 0 + 1) lc (.int (Int32.ofNat (w.1 a).2) :: r0.map (am_cv Γ))) := hqq
      rw [ro1] at hqq
      exact hqq
    · rw [hv]
      refine va_tlen hx hb hT hS rfl hd ?_
      have hqq : W p l e R s m args below meth c H locs w.2.2.2.2.2.1 w.2.2.2.2.2.2 Z (F0 m ((am_ct mid).1.getD n 0 + 1) lc (.int (Int32.ofNat (w.1 a).2) :: r0.map (am_cv Γ))) := hqq
      rw [ro1] at hqq
      exact hqq
    · rw [ro1] at hsh; omega
