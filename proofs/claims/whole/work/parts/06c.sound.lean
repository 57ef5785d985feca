theorem am_c_iload {Γ : am_G} {l : Launch} {mid d : Nat} {Q : am_Q} {p : Program} {e : Env} {R : Room} {s : State} {m : MethodId} {args : Array Value} {below : List Frame} {meth : Method} {c : Code} {Z : State → Prop} {K : am_K} {Cl : am_C} {n h : Nat} {ls st : List Value} {w : am_W} {i : Nat} (hc : am_cx Γ l mid d Q p e R s m args below meth c Z) (hk : am_ck mid n h (.iload i)) (hK : ∀ n ls st w, K n ls st w → am_At Γ l mid p e R s m args below meth c Z n ls st w) (hs : am_stp Cl (am_bd mid) Q K (.iload i) n ls st w) : am_At Γ l mid p e R s m args below meth c Z n ls st w := by
  obtain ⟨hx, hb, hml, hown, hts, henv, hini, hfr, hlo, hbc, hbs, hsz, hret⟩ := hc
  intro H locs lc hr hcn hS hl hln
  unfold am_ck am_ck1 at hk
  dsimp only at hk
  unfold am_stp at hs
  dsimp only at hs
  split at hs
  · rename_i x hv
    have hlc := am_lget hl hv (by intro n h; cases h)
    have hq := hK _ _ _ _ hs H locs lc hr hcn hS hl hln
    by_cases hh : Nat.beq h 0 = true
    · rw [hh, cond_true] at hk
      simp only [Bool.and_eq_true] at hk
      obtain ⟨⟨h4, hd⟩, hn⟩ := hk
      have hd := am_dq_ok hd
      rw [am_beq hn] at hq
      exact lv_iload_n hx hb hd (by simp [Fin.ofNat, Nat.mod_eq_of_lt (Nat.le_of_ble_eq_true h4)]) hlc hq
    · rw [Bool.eq_false_iff.mpr hh, cond_false] at hk
      simp only [Bool.and_eq_true] at hk
      obtain ⟨hd, hn⟩ := hk
      have hd := am_dq_ok hd
      rw [am_beq hn] at hq
      exact lv_iload hx hb hd hlc hq
  · exact hs.elim

theorem am_c_lload {Γ : am_G} {l : Launch} {mid d : Nat} {Q : am_Q} {p : Program} {e : Env} {R : Room} {s : State} {m : MethodId} {args : Array Value} {below : List Frame} {meth : Method} {c : Code} {Z : State → Prop} {K : am_K} {Cl : am_C} {n h : Nat} {ls st : List Value} {w : am_W} {i : Nat} (hc : am_cx Γ l mid d Q p e R s m args below meth c Z) (hk : am_ck mid n h (.lload i)) (hK : ∀ n ls st w, K n ls st w → am_At Γ l mid p e R s m args below meth c Z n ls st w) (hs : am_stp Cl (am_bd mid) Q K (.lload i) n ls st w) : am_At Γ l mid p e R s m args below meth c Z n ls st w := by
  obtain ⟨hx, hb, hml, hown, hts, henv, hini, hfr, hlo, hbc, hbs, hsz, hret⟩ := hc
  intro H locs lc hr hcn hS hl hln
  unfold am_ck am_ck1 at hk
  dsimp only at hk
  unfold am_stp at hs
  dsimp only at hs
  split at hs
  · rename_i x hv
    have hlc := am_lget hl hv (by intro n h; cases h)
    have hq := hK _ _ _ _ hs H locs lc hr hcn hS hl hln
    by_cases hh : Nat.beq h 0 = true
    · rw [hh, cond_true] at hk
      simp only [Bool.and_eq_true] at hk
      obtain ⟨⟨h4, hd⟩, hn⟩ := hk
      have hd := am_dq_ok hd
      rw [am_beq hn] at hq
      exact lv_lload_n hx hb hd (by simp [Fin.ofNat, Nat.mod_eq_of_lt (Nat.le_of_ble_eq_true h4)]) hlc hq
    · rw [Bool.eq_false_iff.mpr hh, cond_false] at hk
      simp only [Bool.and_eq_true] at hk
      obtain ⟨hd, hn⟩ := hk
      have hd := am_dq_ok hd
      rw [am_beq hn] at hq
      exact lv_lload hx hb hd hlc hq
  · exact hs.elim

theorem am_c_aload {Γ : am_G} {l : Launch} {mid d : Nat} {Q : am_Q} {p : Program} {e : Env} {R : Room} {s : State} {m : MethodId} {args : Array Value} {below : List Frame} {meth : Method} {c : Code} {Z : State → Prop} {K : am_K} {Cl : am_C} {n h : Nat} {ls st : List Value} {w : am_W} {i : Nat} (hc : am_cx Γ l mid d Q p e R s m args below meth c Z) (hk : am_ck mid n h (.aload i)) (hK : ∀ n ls st w, K n ls st w → am_At Γ l mid p e R s m args below meth c Z n ls st w) (hs : am_stp Cl (am_bd mid) Q K (.aload i) n ls st w) : am_At Γ l mid p e R s m args below meth c Z n ls st w := by
  obtain ⟨hx, hb, hml, hown, hts, henv, hini, hfr, hlo, hbc, hbs, hsz, hret⟩ := hc
  intro H locs lc hr hcn hS hl hln
  unfold am_ck am_ck1 at hk
  dsimp only at hk
  unfold am_stp at hs
  dsimp only at hs
  split at hs
  · rename_i x hv
    have hlc := am_lget hl hv (by intro n h; cases h)
    have hq := hK _ _ _ _ hs H locs lc hr hcn hS hl hln
    by_cases hh : Nat.beq h 0 = true
    · rw [hh, cond_true] at hk
      simp only [Bool.and_eq_true] at hk
      obtain ⟨⟨h4, hd⟩, hn⟩ := hk
      have hd := am_dq_ok hd
      rw [am_beq hn] at hq
      rcases am_cv_ref henv x with g | ⟨t, g⟩
      · have hq : W p l e R s m args below meth c H locs w.2.2.2.2.2.1 w.2.2.2.2.2.2 Z (F0 m ((am_ct mid).1.getD n 0 + 1) lc (am_cv Γ (.ref x) :: st.map (am_cv Γ))) := hq
        rw [g] at hq hlc
        exact lv_aload_nN hx hb hd (by simp [Fin.ofNat, Nat.mod_eq_of_lt (Nat.le_of_ble_eq_true h4)]) hlc hq
      · have hq : W p l e R s m args below meth c H locs w.2.2.2.2.2.1 w.2.2.2.2.2.2 Z (F0 m ((am_ct mid).1.getD n 0 + 1) lc (am_cv Γ (.ref x) :: st.map (am_cv Γ))) := hq
        rw [g] at hq hlc
        exact lv_aload_n hx hb hd (by simp [Fin.ofNat, Nat.mod_eq_of_lt (Nat.le_of_ble_eq_true h4)]) hlc hq
    · rw [Bool.eq_false_iff.mpr hh, cond_false] at hk
      simp only [Bool.and_eq_true] at hk
      obtain ⟨hd, hn⟩ := hk
      have hd := am_dq_ok hd
      rw [am_beq hn] at hq
      have hq : W p l e R s m args below meth c H locs w.2.2.2.2.2.1 w.2.2.2.2.2.2 Z (F0 m ((am_ct mid).1.getD n 0 + 2) lc (am_cv Γ (.ref x) :: st.map (am_cv Γ))) := hq
      rcases am_cv_ref henv x with g | ⟨t, g⟩
      · rw [g] at hq hlc
        exact lv_aloadN hx hb hd hlc hq
      · rw [g] at hq hlc
        exact lv_aload hx hb hd hlc hq
  · exact hs.elim

theorem am_c_istore {Γ : am_G} {l : Launch} {mid d : Nat} {Q : am_Q} {p : Program} {e : Env} {R : Room} {s : State} {m : MethodId} {args : Array Value} {below : List Frame} {meth : Method} {c : Code} {Z : State → Prop} {K : am_K} {Cl : am_C} {n h : Nat} {ls st : List Value} {w : am_W} {i : Nat} (hc : am_cx Γ l mid d Q p e R s m args below meth c Z) (hk : am_ck mid n h (.istore i)) (hK : ∀ n ls st w, K n ls st w → am_At Γ l mid p e R s m args below meth c Z n ls st w) (hs : am_stp Cl (am_bd mid) Q K (.istore i) n ls st w) : am_At Γ l mid p e R s m args below meth c Z n ls st w := by
  obtain ⟨hx, hb, hml, hown, hts, henv, hini, hfr, hlo, hbc, hbs, hsz, hret⟩ := hc
  intro H locs lc hr hcn hS hl hln
  unfold am_ck am_ck1 at hk
  dsimp only at hk
  unfold am_stp at hs
  dsimp only at hs
  obtain ⟨x, r, e0, hs1⟩ := am_pi_ex hs
  clear hs
  subst e0
  have hs := hs1
  by_cases ho : am_okst ls i = true
  · rw [ho, cond_true] at hs
    have ho : am_inr ls i = true ∧ am_prv ls i = true := by simpa [am_okst] using ho
    have W0 : ∀ lc', lv_has lc' (am_mt mid).2.2.1 ((i, am_cv Γ (.int x)) :: (am_lvl Γ ls).filter (fun q => !(q.1 == i) && !(q.1 + 1 == i && q.2.category == 2))) → W p l e R s m args below meth c H locs w.2.2.2.2.2.1 w.2.2.2.2.2.2 Z (F0 m ((am_ct mid).1.getD (n + 1) 0) lc' (r.map (am_cv Γ))) := fun lc' hl' =>
      hK _ _ _ _ hs H locs lc' hr hcn hS (am_lvs (am_env_cat henv) (am_inr_lt _ _ ho.1) hln ho.2 hl') (by rw [am_set_len]; exact hln)
    by_cases hh : Nat.beq h 0 = true
    · rw [hh, cond_true] at hk
      simp only [Bool.and_eq_true] at hk
      obtain ⟨⟨h4, hd⟩, hn⟩ := hk
      have hd := am_dq_ok hd
      have W1 := W0
      rw [am_beq hn] at W1
      exact lv_istore_n hx hb hd (by simp [Fin.ofNat, Nat.mod_eq_of_lt (Nat.le_of_ble_eq_true h4)]) (show lv_has lc (am_mt mid).2.2.1 (am_lvl Γ ls) by rw [← hln]; exact hl) (by rw [← hln]; exact am_inr_lt _ _ ho.1) rfl (fun lc' hl' => W1 lc' hl')
    · rw [Bool.eq_false_iff.mpr hh, cond_false] at hk
      simp only [Bool.and_eq_true] at hk
      obtain ⟨hd, hn⟩ := hk
      have hd := am_dq_ok hd
      have W1 := W0
      rw [am_beq hn] at W1
      exact lv_istore hx hb hd (show lv_has lc (am_mt mid).2.2.1 (am_lvl Γ ls) by rw [← hln]; exact hl) (by rw [← hln]; exact am_inr_lt _ _ ho.1) rfl (fun lc' hl' => W1 lc' hl')
  · rw [Bool.eq_false_iff.mpr ho, cond_false] at hs
    exact hs.elim

theorem am_c_astore {Γ : am_G} {l : Launch} {mid d : Nat} {Q : am_Q} {p : Program} {e : Env} {R : Room} {s : State} {m : MethodId} {args : Array Value} {below : List Frame} {meth : Method} {c : Code} {Z : State → Prop} {K : am_K} {Cl : am_C} {n h : Nat} {ls st : List Value} {w : am_W} {i : Nat} (hc : am_cx Γ l mid d Q p e R s m args below meth c Z) (hk : am_ck mid n h (.astore i)) (hK : ∀ n ls st w, K n ls st w → am_At Γ l mid p e R s m args below meth c Z n ls st w) (hs : am_stp Cl (am_bd mid) Q K (.astore i) n ls st w) : am_At Γ l mid p e R s m args below meth c Z n ls st w := by
  obtain ⟨hx, hb, hml, hown, hts, henv, hini, hfr, hlo, hbc, hbs, hsz, hret⟩ := hc
  intro H locs lc hr hcn hS hl hln
  unfold am_ck am_ck1 at hk
  dsimp only at hk
  unfold am_stp at hs
  dsimp only at hs
  obtain ⟨x, r, e0, hs1⟩ := am_pr_ex hs
  clear hs
  subst e0
  have hs := hs1
  by_cases ho : am_okst ls i = true
  · rw [ho, cond_true] at hs
    have ho : am_inr ls i = true ∧ am_prv ls i = true := by simpa [am_okst] using ho
    have W0 : ∀ lc', lv_has lc' (am_mt mid).2.2.1 ((i, am_cv Γ (.ref x)) :: (am_lvl Γ ls).filter (fun q => !(q.1 == i) && !(q.1 + 1 == i && q.2.category == 2))) → W p l e R s m args below meth c H locs w.2.2.2.2.2.1 w.2.2.2.2.2.2 Z (F0 m ((am_ct mid).1.getD (n + 1) 0) lc' (r.map (am_cv Γ))) := fun lc' hl' =>
      hK _ _ _ _ hs H locs lc' hr hcn hS (am_lvs (am_env_cat henv) (am_inr_lt _ _ ho.1) hln ho.2 hl') (by rw [am_set_len]; exact hln)
    by_cases hh : Nat.beq h 0 = true
    · rw [hh, cond_true] at hk
      simp only [Bool.and_eq_true] at hk
      obtain ⟨⟨h4, hd⟩, hn⟩ := hk
      have hd := am_dq_ok hd
      have W1 := W0
      rw [am_beq hn] at W1
      rcases am_cv_ref henv x with g | ⟨t, g⟩
      · show W p l e R s m args below meth c H locs w.2.2.2.2.2.1 w.2.2.2.2.2.2 Z (F0 m ((am_ct mid).1.getD n 0) lc (am_cv Γ (.ref x) :: r.map (am_cv Γ)))
        rw [g] at W1 ⊢
        exact lv_astore_nN hx hb hd (by simp [Fin.ofNat, Nat.mod_eq_of_lt (Nat.le_of_ble_eq_true h4)]) (show lv_has lc (am_mt mid).2.2.1 (am_lvl Γ ls) by rw [← hln]; exact hl) (by rw [← hln]; exact am_inr_lt _ _ ho.1) rfl (fun lc' hl' => W1 lc' hl')
      · show W p l e R s m args below meth c H locs w.2.2.2.2.2.1 w.2.2.2.2.2.2 Z (F0 m ((am_ct mid).1.getD n 0) lc (am_cv Γ (.ref x) :: r.map (am_cv Γ)))
        rw [g] at W1 ⊢
        exact lv_astore_n hx hb hd (by simp [Fin.ofNat, Nat.mod_eq_of_lt (Nat.le_of_ble_eq_true h4)]) (show lv_has lc (am_mt mid).2.2.1 (am_lvl Γ ls) by rw [← hln]; exact hl) (by rw [← hln]; exact am_inr_lt _ _ ho.1) rfl (fun lc' hl' => W1 lc' hl')
    · rw [Bool.eq_false_iff.mpr hh, cond_false] at hk
      simp only [Bool.and_eq_true] at hk
      obtain ⟨hd, hn⟩ := hk
      have hd := am_dq_ok hd
      have W1 := W0
      rw [am_beq hn] at W1
      rcases am_cv_ref henv x with g | ⟨t, g⟩
      · show W p l e R s m args below meth c H locs w.2.2.2.2.2.1 w.2.2.2.2.2.2 Z (F0 m ((am_ct mid).1.getD n 0) lc (am_cv Γ (.ref x) :: r.map (am_cv Γ)))
        rw [g] at W1 ⊢
        exact lv_astoreN hx hb hd (show lv_has lc (am_mt mid).2.2.1 (am_lvl Γ ls) by rw [← hln]; exact hl) (by rw [← hln]; exact am_inr_lt _ _ ho.1) rfl (fun lc' hl' => W1 lc' hl')
      · show W p l e R s m args below meth c H locs w.2.2.2.2.2.1 w.2.2.2.2.2.2 Z (F0 m ((am_ct mid).1.getD n 0) lc (am_cv Γ (.ref x) :: r.map (am_cv Γ)))
        rw [g] at W1 ⊢
        exact lv_astore hx hb hd (show lv_has lc (am_mt mid).2.2.1 (am_lvl Γ ls) by rw [← hln]; exact hl) (by rw [← hln]; exact am_inr_lt _ _ ho.1) rfl (fun lc' hl' => W1 lc' hl')
  · rw [Bool.eq_false_iff.mpr ho, cond_false] at hs
    exact hs.elim

theorem am_c_lstore {Γ : am_G} {l : Launch} {mid d : Nat} {Q : am_Q} {p : Program} {e : Env} {R : Room} {s : State} {m : MethodId} {args : Array Value} {below : List Frame} {meth : Method} {c : Code} {Z : State → Prop} {K : am_K} {Cl : am_C} {n h : Nat} {ls st : List Value} {w : am_W} {i : Nat} (hc : am_cx Γ l mid d Q p e R s m args below meth c Z) (hk : am_ck mid n h (.lstore i)) (hK : ∀ n ls st w, K n ls st w → am_At Γ l mid p e R s m args below meth c Z n ls st w) (hs : am_stp Cl (am_bd mid) Q K (.lstore i) n ls st w) : am_At Γ l mid p e R s m args below meth c Z n ls st w := by
  obtain ⟨hx, hb, hml, hown, hts, henv, hini, hfr, hlo, hbc, hbs, hsz, hret⟩ := hc
  intro H locs lc hr hcn hS hl hln
  unfold am_ck am_ck1 at hk
  dsimp only at hk
  unfold am_stp at hs
  dsimp only at hs
  obtain ⟨x, r, e0, hs1⟩ := am_pl_ex hs
  clear hs
  subst e0
  have hs := hs1
  by_cases ho : (am_okst ls i && am_inr ls (i + 1)) = true
  · rw [ho, cond_true] at hs
    have ho : (am_inr ls i = true ∧ am_prv ls i = true) ∧ am_inr ls (i + 1) = true := by simpa [am_okst] using ho
    have W0 : ∀ lc', lv_has lc' (am_mt mid).2.2.1 ((i, Value.long x) :: (am_lvl Γ ls).filter (fun q => !(q.1 == i) && (!(q.1 == i + 1) && !(q.1 + 1 == i && q.2.category == 2)))) → W p l e R s m args below meth c H locs w.2.2.2.2.2.1 w.2.2.2.2.2.2 Z (F0 m ((am_ct mid).1.getD (n + 1) 0) lc' (r.map (am_cv Γ))) := fun lc' hl' =>
      hK _ _ _ _ hs H locs lc' hr hcn hS (am_lvs2 (am_env_cat henv) (am_inr_lt _ _ ho.2) hln ho.1.2 hl') (by rw [am_set_len, am_set_len]; exact hln)
    by_cases hh : Nat.beq h 0 = true
    · rw [hh, cond_true] at hk
      simp only [Bool.and_eq_true] at hk
      obtain ⟨⟨h4, hd⟩, hn⟩ := hk
      have hd := am_dq_ok hd
      have W1 := W0
      rw [am_beq hn] at W1
      exact lv_lstore_n hx hb hd (by simp [Fin.ofNat, Nat.mod_eq_of_lt (Nat.le_of_ble_eq_true h4)]) (show lv_has lc (am_mt mid).2.2.1 (am_lvl Γ ls) by rw [← hln]; exact hl) (by rw [← hln]; exact am_inr_lt _ _ ho.2) rfl (fun lc' hl' => W1 lc' hl')
    · rw [Bool.eq_false_iff.mpr hh, cond_false] at hk
      simp only [Bool.and_eq_true] at hk
      obtain ⟨hd, hn⟩ := hk
      have hd := am_dq_ok hd
      have W1 := W0
      rw [am_beq hn] at W1
      exact lv_lstore hx hb hd (show lv_has lc (am_mt mid).2.2.1 (am_lvl Γ ls) by rw [← hln]; exact hl) (by rw [← hln]; exact am_inr_lt _ _ ho.2) rfl (fun lc' hl' => W1 lc' hl')
  · rw [Bool.eq_false_iff.mpr ho, cond_false] at hs
    exact hs.elim

theorem am_c_iinc {Γ : am_G} {l : Launch} {mid d : Nat} {Q : am_Q} {p : Program} {e : Env} {R : Room} {s : State} {m : MethodId} {args : Array Value} {below : List Frame} {meth : Method} {c : Code} {Z : State → Prop} {K : am_K} {Cl : am_C} {n h : Nat} {ls st : List Value} {w : am_W} {i : Nat} {k0 : Int} (hc : am_cx Γ l mid d Q p e R s m args below meth c Z) (hk : am_ck mid n h (.iinc i k0)) (hK : ∀ n ls st w, K n ls st w → am_At Γ l mid p e R s m args below meth c Z n ls st w) (hs : am_stp Cl (am_bd mid) Q K (.iinc i k0) n ls st w) : am_At Γ l mid p e R s m args below meth c Z n ls st w := by
  obtain ⟨hx, hb, hml, hown, hts, henv, hini, hfr, hlo, hbc, hbs, hsz, hret⟩ := hc
  intro H locs lc hr hcn hS hl hln
  simp only [am_ck, am_ck1, Bool.and_eq_true] at hk
  obtain ⟨hd, hn⟩ := hk
  have hd := am_dq_ok hd
  have hn := am_beq hn
  unfold am_stp at hs
  dsimp only at hs
  split at hs
  · rename_i x hv
    have hlc := am_lvl_mem (Γ := Γ) hv (by intro n h; cases h)
    obtain ⟨k, hk⟩ := List.getElem?_of_mem hlc
    have hi := am_nth_lt _ _ _ hv (by intro n h; cases h)
    by_cases hcat : am_prv ls i = true
    · rw [hcat, cond_true] at hs
      refine lv_iinc hx hb hd (show lv_has lc (am_mt mid).2.2.1 (am_lvl Γ ls) by rw [← hln]; exact hl) hk rfl (by rw [← hln]; exact hi) rfl (fun lc' hl' => ?_)
      have hq := hK _ _ _ _ hs H locs lc' hr hcn hS (am_lvs (am_env_cat henv) hi hln hcat hl') (by rw [am_set_len]; exact hln)
      rw [hn] at hq
      exact hq
    · rw [Bool.eq_false_iff.mpr hcat, cond_false] at hs
      exact hs.elim
  · exact hs.elim

theorem am_c_sipush {Γ : am_G} {l : Launch} {mid d : Nat} {Q : am_Q} {p : Program} {e : Env} {R : Room} {s : State} {m : MethodId} {args : Array Value} {below : List Frame} {meth : Method} {c : Code} {Z : State → Prop} {K : am_K} {Cl : am_C} {n h : Nat} {ls st : List Value} {w : am_W} {v : Int} (hc : am_cx Γ l mid d Q p e R s m args below meth c Z) (hk : am_ck mid n h (.sipush v)) (hK : ∀ n ls st w, K n ls st w → am_At Γ l mid p e R s m args below meth c Z n ls st w) (hs : am_stp Cl (am_bd mid) Q K (.sipush v) n ls st w) : am_At Γ l mid p e R s m args below meth c Z n ls st w := by
  obtain ⟨hx, hb, hml, hown, hts, henv, hini, hfr, hlo, hbc, hbs, hsz, hret⟩ := hc
  intro H locs lc hr hcn hS hl hln
  unfold am_ck am_ck1 at hk
  dsimp only at hk
  unfold am_stp at hs
  dsimp only at hs
  have hq := hK _ _ _ _ hs H locs lc hr hcn hS hl hln
  by_cases hh : Nat.beq h 0 = true
  · rw [hh, cond_true] at hk
    simp only [Bool.and_eq_true] at hk
    obtain ⟨hd, hn⟩ := hk
    rw [am_beq hn] at hq
    exact lv_iconst hx hb (am_dq_ok hd) rfl hq
  rw [Bool.eq_false_iff.mpr hh, cond_false] at hk
  clear hh
  by_cases hh : Nat.beq h 1 = true
  · rw [hh, cond_true] at hk
    simp only [Bool.and_eq_true] at hk
    obtain ⟨⟨hd, hn⟩, hv⟩ := hk
    rw [am_beq hn] at hq
    exact lv_bipush hx hb (am_dq_ok hd) (of_decide_eq_true hv) hq
  rw [Bool.eq_false_iff.mpr hh, cond_false] at hk
  clear hh
  by_cases hh : Nat.beq h 2 = true
  · rw [hh, cond_true] at hk
    simp only [Bool.and_eq_true] at hk
    obtain ⟨⟨hd, hn⟩, hv⟩ := hk
    rw [am_beq hn] at hq
    exact lv_sipush hx hb (am_dq_ok hd) (of_decide_eq_true hv) hq
  rw [Bool.eq_false_iff.mpr hh, cond_false] at hk
  clear hh
  by_cases hh : Nat.beq (h % 8) 3 = true
  · rw [hh, cond_true] at hk
    simp only [Bool.and_eq_true] at hk
    obtain ⟨⟨hd, hn⟩, hv⟩ := hk
    rw [am_beq hn] at hq
    exact lv_ldc hx hb hown (hts _ (am_LC_in _ (List.mem_map_of_mem (am_mi_ok hv)))) (am_dq_ok hd) hq
  rw [Bool.eq_false_iff.mpr hh, cond_false] at hk
  clear hh
  by_cases hh : Nat.beq (h % 8) 4 = true
  · rw [hh, cond_true] at hk
    simp only [Bool.and_eq_true] at hk
    obtain ⟨⟨hd, hn⟩, hv⟩ := hk
    rw [am_beq hn] at hq
    exact lv_ldcw hx hb hown (hts _ (am_LC_in _ (List.mem_map_of_mem (am_mi_ok hv)))) (am_dq_ok hd) hq
  rw [Bool.eq_false_iff.mpr hh, cond_false] at hk
  clear hh
  simp only [Bool.and_eq_true] at hk
  obtain ⟨⟨⟨hd, hn⟩, hm⟩, hv⟩ := hk
  rw [am_beq hn] at hq
  have hv := of_decide_eq_true hv
  subst hv
  have hm := am_m3_ok hm
  exact va_gets hx hb (henv.2.2.1 _ hm) hS hown (hts _ (am_LG_in _ (List.mem_map_of_mem hm))) (fun _ h => h) (am_dq_ok hd) hq

theorem am_c_bipush {Γ : am_G} {l : Launch} {mid d : Nat} {Q : am_Q} {p : Program} {e : Env} {R : Room} {s : State} {m : MethodId} {args : Array Value} {below : List Frame} {meth : Method} {c : Code} {Z : State → Prop} {K : am_K} {Cl : am_C} {n h : Nat} {ls st : List Value} {w : am_W} {v : Int} (hc : am_cx Γ l mid d Q p e R s m args below meth c Z) (hk : am_ck mid n h (.bipush v)) (hK : ∀ n ls st w, K n ls st w → am_At Γ l mid p e R s m args below meth c Z n ls st w) (hs : am_stp Cl (am_bd mid) Q K (.bipush v) n ls st w) : am_At Γ l mid p e R s m args below meth c Z n ls st w := by
  obtain ⟨hx, hb, hml, hown, hts, henv, hini, hfr, hlo, hbc, hbs, hsz, hret⟩ := hc
  intro H locs lc hr hcn hS hl hln
  unfold am_ck am_ck1 at hk
  dsimp only at hk
  unfold am_stp at hs
  dsimp only at hs
  have hq := hK _ _ _ _ hs H locs lc hr hcn hS hl hln
  by_cases hh : Nat.beq h 0 = true
  · rw [hh, cond_true] at hk
    simp only [Bool.and_eq_true] at hk
    obtain ⟨hd, hn⟩ := hk
    rw [am_beq hn] at hq
    rcases Bool.or_eq_true _ _ ▸ hd with hd | hd
    · simp only [Bool.and_eq_true] at hd
      have hv := of_decide_eq_true hd.2
      subst hv
      exact lv_lconst hx hb (am_dq_ok hd.1) rfl hq
    · simp only [Bool.and_eq_true] at hd
      have hv := of_decide_eq_true hd.2
      subst hv
      exact lv_lconst hx hb (am_dq_ok hd.1) rfl hq
  rw [Bool.eq_false_iff.mpr hh, cond_false] at hk
  clear hh
  simp only [Bool.and_eq_true] at hk
  obtain ⟨⟨hd, hn⟩, hv⟩ := hk
  rw [am_beq hn] at hq
  exact lv_ldc2 hx hb hown (hts _ (am_LL_in _ (List.mem_map_of_mem (am_mi_ok hv)))) (am_dq_ok hd) hq

theorem am_c_getstatic {Γ : am_G} {l : Launch} {mid d : Nat} {Q : am_Q} {p : Program} {e : Env} {R : Room} {s : State} {m : MethodId} {args : Array Value} {below : List Frame} {meth : Method} {c : Code} {Z : State → Prop} {K : am_K} {Cl : am_C} {n h : Nat} {ls st : List Value} {w : am_W} {a : Nat} (hc : am_cx Γ l mid d Q p e R s m args below meth c Z) (hk : am_ck mid n h (.getstatic a)) (hK : ∀ n ls st w, K n ls st w → am_At Γ l mid p e R s m args below meth c Z n ls st w) (hs : am_stp Cl (am_bd mid) Q K (.getstatic a) n ls st w) : am_At Γ l mid p e R s m args below meth c Z n ls st w := by
  obtain ⟨hx, hb, hml, hown, hts, henv, hini, hfr, hlo, hbc, hbs, hsz, hret⟩ := hc
  intro H locs lc hr hcn hS hl hln
  simp only [am_ck, am_ck1, Bool.and_eq_true] at hk
  obtain ⟨⟨⟨hd, hn⟩, hm⟩, h5⟩ := hk
  unfold am_stp at hs
  dsimp only at hs
  have hq := hK _ _ _ _ hs H locs lc hr hcn hS hl hln
  rw [am_beq hn] at hq
  have hm := am_m3_ok hm
  have h5 := Nat.le_of_ble_eq_true h5
  have hz := henv.2.2.1 _ hm
  have e1 : ((am_mt mid).2.2.2.2.1, h, a).2.2 = a := rfl
  rw [e1, if_neg (by omega)] at hz
  have hq : W p l e R s m args below meth c H locs w.2.2.2.2.2.1 w.2.2.2.2.2.2 Z (F0 m ((am_ct mid).1.getD n 0 + 3) lc (am_cv Γ (.ref a) :: st.map (am_cv Γ))) := hq
  have e2 : am_cv Γ (.ref a) = Γ.2.2.2.1 a := am_cv_ro h5
  rw [e2] at hq
  exact va_gets hx hb hz hS hown (hts _ (am_LG_in _ (List.mem_map_of_mem hm))) (fun _ h => h) (am_dq_ok hd) hq

theorem am_c_goto {Γ : am_G} {l : Launch} {mid d : Nat} {Q : am_Q} {p : Program} {e : Env} {R : Room} {s : State} {m : MethodId} {args : Array Value} {below : List Frame} {meth : Method} {c : Code} {Z : State → Prop} {K : am_K} {Cl : am_C} {n h : Nat} {ls st : List Value} {w : am_W} {t : Int} (hc : am_cx Γ l mid d Q p e R s m args below meth c Z) (hk : am_ck mid n h (.goto t)) (hK : ∀ n ls st w, K n ls st w → am_At Γ l mid p e R s m args below meth c Z n ls st w) (hs : am_stp Cl (am_bd mid) Q K (.goto t) n ls st w) : am_At Γ l mid p e R s m args below meth c Z n ls st w := by
  obtain ⟨hx, hb, hml, hown, hts, henv, hini, hfr, hlo, hbc, hbs, hsz, hret⟩ := hc
  intro H locs lc hr hcn hS hl hln
  simp only [am_ck, am_ck1, Bool.and_eq_true] at hk
  unfold am_stp at hs
  dsimp only at hs
  have hq := hK _ _ _ _ hs H locs lc hr hcn hS hl hln
  exact lv_goto hx hb (am_dq_ok hk) (by unfold am_tg; omega) hq

theorem am_c_ifCond {Γ : am_G} {l : Launch} {mid d : Nat} {Q : am_Q} {p : Program} {e : Env} {R : Room} {s : State} {m : MethodId} {args : Array Value} {below : List Frame} {meth : Method} {c : Code} {Z : State → Prop} {K : am_K} {Cl : am_C} {n h : Nat} {ls st : List Value} {w : am_W} {k0 : ClassFile.Cond} {t : Int} (hc : am_cx Γ l mid d Q p e R s m args below meth c Z) (hk : am_ck mid n h (.ifCond k0 t)) (hK : ∀ n ls st w, K n ls st w → am_At Γ l mid p e R s m args below meth c Z n ls st w) (hs : am_stp Cl (am_bd mid) Q K (.ifCond k0 t) n ls st w) : am_At Γ l mid p e R s m args below meth c Z n ls st w := by
  obtain ⟨hx, hb, hml, hown, hts, henv, hini, hfr, hlo, hbc, hbs, hsz, hret⟩ := hc
  intro H locs lc hr hcn hS hl hln
  simp only [am_ck, am_ck1, Bool.and_eq_true] at hk
  obtain ⟨hd, hn⟩ := hk
  have hd := am_dq_ok hd
  have hn := am_beq hn
  unfold am_stp at hs
  dsimp only at hs
  obtain ⟨x, rx, ex, hsx⟩ := am_pi_ex hs
  subst ex
  obtain ⟨h1, h2⟩ := hsx

  have k1 := fun g => hK _ _ _ _ (h1 g) H locs lc hr hcn hS hl hln
  have k2 := fun g => hK _ _ _ _ (h2 g) H locs lc hr hcn hS hl hln
  rw [hn] at k2
  cases k0 with
  | eq => exact lv_if_eq hx hb hd (by unfold am_tg; omega) k1 k2
  | ne => exact lv_if_ne hx hb hd (by unfold am_tg; omega) k1 k2
  | lt => exact lv_if_lt hx hb hd (by unfold am_tg; omega) k1 k2
  | ge => exact lv_if_ge hx hb hd (by unfold am_tg; omega) k1 k2
  | gt => exact lv_if_gt hx hb hd (by unfold am_tg; omega) k1 k2
  | le => exact lv_if_le hx hb hd (by unfold am_tg; omega) k1 k2

theorem am_c_if_icmp {Γ : am_G} {l : Launch} {mid d : Nat} {Q : am_Q} {p : Program} {e : Env} {R : Room} {s : State} {m : MethodId} {args : Array Value} {below : List Frame} {meth : Method} {c : Code} {Z : State → Prop} {K : am_K} {Cl : am_C} {n h : Nat} {ls st : List Value} {w : am_W} {k0 : ClassFile.Cond} {t : Int} (hc : am_cx Γ l mid d Q p e R s m args below meth c Z) (hk : am_ck mid n h (.if_icmp k0 t)) (hK : ∀ n ls st w, K n ls st w → am_At Γ l mid p e R s m args below meth c Z n ls st w) (hs : am_stp Cl (am_bd mid) Q K (.if_icmp k0 t) n ls st w) : am_At Γ l mid p e R s m args below meth c Z n ls st w := by
  obtain ⟨hx, hb, hml, hown, hts, henv, hini, hfr, hlo, hbc, hbs, hsz, hret⟩ := hc
  intro H locs lc hr hcn hS hl hln
  simp only [am_ck, am_ck1, Bool.and_eq_true] at hk
  obtain ⟨hd, hn⟩ := hk
  have hd := am_dq_ok hd
  have hn := am_beq hn
  unfold am_stp at hs
  dsimp only at hs
  obtain ⟨y, ry, ey, hsy⟩ := am_pi_ex hs
  subst ey
  obtain ⟨x, rx, ex, hsx⟩ := am_pi_ex hsy
  subst ex
  obtain ⟨h1, h2⟩ := hsx

  have k1 := fun g => hK _ _ _ _ (h1 g) H locs lc hr hcn hS hl hln
  have k2 := fun g => hK _ _ _ _ (h2 g) H locs lc hr hcn hS hl hln
  rw [hn] at k2
  cases k0 with
  | eq => exact lv_icmp_eq hx hb hd (by unfold am_tg; omega) k1 k2
  | ne => exact lv_icmp_ne hx hb hd (by unfold am_tg; omega) k1 k2
  | lt => exact lv_icmp_lt hx hb hd (by unfold am_tg; omega) k1 k2
  | ge => exact lv_icmp_ge hx hb hd (by unfold am_tg; omega) k1 k2
  | gt => exact lv_icmp_gt hx hb hd (by unfold am_tg; omega) k1 k2
  | le => exact lv_icmp_le hx hb hd (by unfold am_tg; omega) k1 k2

theorem am_c_ifnull {Γ : am_G} {l : Launch} {mid d : Nat} {Q : am_Q} {p : Program} {e : Env} {R : Room} {s : State} {m : MethodId} {args : Array Value} {below : List Frame} {meth : Method} {c : Code} {Z : State → Prop} {K : am_K} {Cl : am_C} {n h : Nat} {ls st : List Value} {w : am_W} {t : Int} (hc : am_cx Γ l mid d Q p e R s m args below meth c Z) (hk : am_ck mid n h (.ifnull t)) (hK : ∀ n ls st w, K n ls st w → am_At Γ l mid p e R s m args below meth c Z n ls st w) (hs : am_stp Cl (am_bd mid) Q K (.ifnull t) n ls st w) : am_At Γ l mid p e R s m args below meth c Z n ls st w := by
  obtain ⟨hx, hb, hml, hown, hts, henv, hini, hfr, hlo, hbc, hbs, hsz, hret⟩ := hc
  intro H locs lc hr hcn hS hl hln
  simp only [am_ck, am_ck1, Bool.and_eq_true] at hk
  obtain ⟨hd, hn⟩ := hk
  have hd := am_dq_ok hd
  have hn := am_beq hn
  unfold am_stp at hs
  dsimp only at hs
  obtain ⟨x, r, e0, h0, h1, h2⟩ := am_pr_ex hs
  clear hs
  subst e0
  have k1 := fun g => hK _ _ _ _ (h1 g) H locs lc hr hcn hS hl hln
  have k2 := fun g => hK _ _ _ _ (h2 g) H locs lc hr hcn hS hl hln
  rw [hn] at k2
  show W p l e R s m args below meth c H locs w.2.2.2.2.2.1 w.2.2.2.2.2.2 Z (F0 m ((am_ct mid).1.getD n 0) lc (am_cv Γ (.ref x) :: r.map (am_cv Γ)))
  rcases Nat.eq_zero_or_pos x with e0 | e0
  · subst e0
    have e1 : am_cv Γ (.ref 0) = .null := rfl
    rw [e1]
    exact lv_ifnullN hx hb hd (by unfold am_tg; omega) (k1 rfl)
  · rw [am_cv_own e0 h0]
    exact lv_ifnull hx hb hd (k2 (by omega))

theorem am_c_ifnonnull {Γ : am_G} {l : Launch} {mid d : Nat} {Q : am_Q} {p : Program} {e : Env} {R : Room} {s : State} {m : MethodId} {args : Array Value} {below : List Frame} {meth : Method} {c : Code} {Z : State → Prop} {K : am_K} {Cl : am_C} {n h : Nat} {ls st : List Value} {w : am_W} {t : Int} (hc : am_cx Γ l mid d Q p e R s m args below meth c Z) (hk : am_ck mid n h (.ifnonnull t)) (hK : ∀ n ls st w, K n ls st w → am_At Γ l mid p e R s m args below meth c Z n ls st w) (hs : am_stp Cl (am_bd mid) Q K (.ifnonnull t) n ls st w) : am_At Γ l mid p e R s m args below meth c Z n ls st w := by
  obtain ⟨hx, hb, hml, hown, hts, henv, hini, hfr, hlo, hbc, hbs, hsz, hret⟩ := hc
  intro H locs lc hr hcn hS hl hln
  simp only [am_ck, am_ck1, Bool.and_eq_true] at hk
  obtain ⟨hd, hn⟩ := hk
  have hd := am_dq_ok hd
  have hn := am_beq hn
  unfold am_stp at hs
  dsimp only at hs
  obtain ⟨x, r, e0, h0, h1, h2⟩ := am_pr_ex hs
  clear hs
  subst e0
  have k1 := fun g => hK _ _ _ _ (h1 g) H locs lc hr hcn hS hl hln
  have k2 := fun g => hK _ _ _ _ (h2 g) H locs lc hr hcn hS hl hln
  rw [hn] at k2
  show W p l e R s m args below meth c H locs w.2.2.2.2.2.1 w.2.2.2.2.2.2 Z (F0 m ((am_ct mid).1.getD n 0) lc (am_cv Γ (.ref x) :: r.map (am_cv Γ)))
  rcases Nat.eq_zero_or_pos x with e0 | e0
  · subst e0
    have e1 : am_cv Γ (.ref 0) = .null := rfl
    rw [e1]
    exact lv_ifnonnullN hx hb hd (k2 rfl)
  · rw [am_cv_own e0 h0]
    exact lv_ifnonnull hx hb hd (by unfold am_tg; omega) (k1 (by omega))

