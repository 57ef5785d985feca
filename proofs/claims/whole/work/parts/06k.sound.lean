/-! Calls: their instructions -/
theorem am_LM_law : am_LM.all (fun x => !Nat.beq x.2.2.1 286 && Nat.blt x.2.2.1 300) = true := by decide +kernel
theorem am_nL_len : am_nL.length = 282 := by decide +kernel
theorem am_LM_is2 {o h m2 kd : Nat} (hm : (o, h, m2, kd) ∈ am_LM) (h1 : Nat.ble 20 m2 = true) (h2 : Nat.blt (m2 - 20) am_nL.length = true) : am_isM (m2 - 20) := by
  have h3 := List.all_eq_true.mp am_LM_law _ hm
  rw [Bool.and_eq_true] at h3
  obtain ⟨h3, h4⟩ := h3
  have h1 := Nat.le_of_ble_eq_true h1
  have h4 : m2 < 300 := Nat.le_of_ble_eq_true h4
  refine ⟨by omega, fun e => ?_⟩
  have e1 : m2 = 286 := by omega
  rw [e1] at h3
  cases h3
theorem am_maxL {mid : Nat} (h : am_isM (mid - 20)) : (am_mt mid).2.2.1 ≤ 60 := by
  have := am_ckA h
  unfold am_ckM at this
  simp only [Bool.and_eq_true] at this
  exact Nat.le_of_ble_eq_true this.1.2
theorem am_mfx {mid : Nat} (h : am_isM (mid - 20)) : plainName (am_mt mid).1.cls = true ∧ (am_mt mid).1.cls ≠ "java/lang/invoke/MethodHandle" ∧ (am_mt mid).1.cls ≠ "java/lang/invoke/VarHandle" ∧ (parseMethodDescriptor (am_mt mid).1.desc).map (fun d => d.parameters.length) = some (bif Nat.beq (am_mt mid).2.2.2.2.2.1 1 then (am_mt mid).2.2.2.2.2.2 else (am_mt mid).2.2.2.2.2.2 - 1) ∧ (am_mt mid).1.cls = am_Rn (am_mt mid).2.2.2.2.1 ∧ ((am_mt mid).2.2.2.2.2.1 = 2 → (am_mt mid).1.name = "<init>") := by
  have := am_mf h
  unfold am_mfc at this
  simp only [Bool.and_eq_true, Bool.or_eq_true, decide_eq_true_eq] at this
  obtain ⟨⟨⟨⟨⟨h1, h2⟩, h3⟩, h4⟩, h5⟩, h6⟩ := this
  refine ⟨h1, h2, h3, h4, h5, fun e => ?_⟩
  rcases h6 with g | g
  · have e : (am_mi0 (mid - 20)).2.2.2.2.2.1 = 2 := e
    rw [e] at g
    cases g
  · exact g
theorem am_clsR : ∀ o, o < 13 → (am_cls.getD o ("", fun _ => ("", "", "", false), 0)).1 = am_Rn o := by decide +kernel
theorem am_mw0 {mid : Nat} (h : am_isM (mid - 20)) : Cond.initialized (am_mt mid).1.cls ∈ lw_g := am_mw h _ (by unfold am_mwd; exact List.mem_append_left _ (List.mem_cons_of_mem _ List.mem_cons_self))
theorem am_mw1 {mid : Nat} (h : am_isM (mid - 20)) (hf : (am_mt mid).2.2.2.2.2.1 = 0) : Cond.instanceMethod (am_mt mid).1 ∈ lw_g ∧ Cond.selects (am_mt mid).1.cls (am_mt mid).1 (am_mt mid).1 ∈ lw_g := by
  have hf : (am_mi0 (mid - 20)).2.2.2.2.2.1 = 0 := hf
  refine ⟨am_mw h _ ?_, am_mw h _ ?_⟩ <;> unfold am_mwd <;> refine List.mem_append_right _ ?_ <;> rw [hf]
  · exact List.mem_cons_self
  · exact List.mem_cons_of_mem _ List.mem_cons_self
theorem am_mw2 {mid : Nat} (h : am_isM (mid - 20)) (hf : (am_mt mid).2.2.2.2.2.1 = 1) : Cond.static (am_mt mid).1 ∈ lw_g := by
  have hf : (am_mi0 (mid - 20)).2.2.2.2.2.1 = 1 := hf
  refine am_mw h _ ?_
  unfold am_mwd
  refine List.mem_append_right _ ?_
  rw [hf]
  exact List.mem_cons_self
theorem am_mw3 {mid : Nat} (h : am_isM (mid - 20)) (hf : (am_mt mid).2.2.2.2.2.1 = 2) : Cond.instanceMethod (am_mt mid).1 ∈ lw_g := by
  have hf : (am_mi0 (mid - 20)).2.2.2.2.2.1 = 2 := hf
  refine am_mw h _ ?_
  unfold am_mwd
  refine List.mem_append_right _ ?_
  rw [hf]
  exact List.mem_cons_self

theorem am_o_all : am_nL.all (fun x => Nat.blt x.2.1 19) = true := by decide +kernel
theorem am_o_lt (mid : Nat) : (am_mt mid).2.2.2.2.1 < 19 := by
  show (am_nL.getD (mid - 20) (0, 0, 0, 0)).2.1 < 19
  rw [List.getD_eq_getElem?_getD]
  cases h : am_nL[mid - 20]? with
  | none => show 0 < 19; decide
  | some x => exact Nat.le_of_ble_eq_true (List.all_eq_true.mp am_o_all x (List.mem_of_getElem? h))

theorem am_hR {x d f g : Nat} (h1 : x ≤ 60) (h2 : d + 1 + 1 ≤ f) (h3 : 96 * (d + 1 + 1) ≤ g) : d + 1 + 1 ≤ f ∧ 8 + (x + 11) + 96 * (d + 1) ≤ g := by omega
theorem am_h8 {x : Nat} (h : x ≤ 8) : 2 * 0 + x ≤ 8 := by omega
theorem am_hc0 {x y z k : Nat} (h0 : k = 0) (h1 : x ≤ y) (h2 : y ≤ z) : x + k ≤ z := by omega
theorem am_hc1 {x z R k q : Nat} (h0 : q = k) (h1 : x + q ≤ z) (h2 : z ≤ R) : x + k ≤ R := by omega
theorem am_recv {Γ : am_G} {w : am_W} {H : Heap} {locs : List Loc} {s : State} {o a cc2 : Nat} (hr : am_rep Γ w H) (henv : am_env Γ s s.heap) (hS : va_S (am_A Γ) s.heap H locs) (ho : o < 19) (hsh : (w.1 a).1 = cc2) (hcl : (Nat.beq cc2 (o + 1) || (Nat.beq cc2 90 && Nat.beq o 16)) = true) : ∃ b, am_cv Γ (.ref a) = .ref b ∧ ∃ cell : Cell, H[b]? = some cell ∧ cell.vm.isStatics = false ∧ s.vm.findClass (am_Rn o) = some cell.cls := by
  simp only [Bool.or_eq_true, Bool.and_eq_true] at hcl
  rcases hcl with hcl | ⟨hcl, ho9⟩
  · have hcl := am_beq hcl
    rcases Nat.lt_or_ge o 13 with g | g
    · obtain ⟨o1, o2, o3, o4, o5⟩ := am_obj hr henv (ci := o) g (by rw [hsh, hcl])
      obtain ⟨rc, hrc, hF, hN⟩ := am_cls_get g
      obtain ⟨cell, z1, z2, z3⟩ := va_recv henv.1 hr.2.1 hrc o5
      refine ⟨_, am_cv_own o1 o3, cell, z1, z2, ?_⟩
      rw [← am_clsR _ g]
      have : (am_cls.getD o ("", fun _ => ("", "", "", false), 0)) = rc := by rw [List.getD_eq_getElem?_getD, hrc]; rfl
      rw [this]
      exact z3
    · exfalso
      rw [hcl] at hsh
      rcases Nat.lt_or_ge a 5000 with y | y
      · rcases Nat.eq_zero_or_pos a with z | z
        · have := hr.1.1 a (Or.inl z); omega
        · rcases Nat.lt_or_ge a w.2.2.2.2.1 with u | u
          · rcases hr.1.2.2.1 a z u with ⟨_, y2, _⟩ | ⟨y1, _, _⟩ <;> omega
          · have := hr.1.1 a (Or.inr ⟨u, y⟩); omega
      · rw [(hr.1.2.2.2 a y).1] at hsh
        rcases henv.2.1 a y with g | ⟨g, -⟩ | ⟨g, -⟩ | ⟨g, -⟩ <;> omega
  · have hcl := am_beq hcl
    have ho9 := am_beq ho9
    rw [hcl] at hsh
    have ha := am_ro hr hsh (Or.inr (Or.inr rfl))
    rw [(hr.1.2.2.2 a ha).1] at hsh
    rcases henv.2.1 a ha with g | ⟨g, -⟩ | ⟨g, -⟩ | ⟨-, g5, g6, t, hv, ⟨cell, w1, w2, w3, w4⟩, hco, hva⟩
    · omega
    · omega
    · omega
    · refine ⟨t, by rw [am_cv_ro ha, hv], cell, ?_, w2, ?_⟩
      · rw [hS.2.1 t (Array.getElem?_eq_some_iff.mp w1).1 w4]; exact w1
      · rw [ho9]; exact w3
theorem am_hv {Γ : am_G} {l : Launch} {mid d : Nat} {Q : am_Q} {p : Program} {e : Env} {R : Room} {s : State} {m : MethodId} {args : Array Value} {below : List Frame} {meth : Method} {c : Code} {Z : State → Prop} {K : am_K} {n h : Nat} {ls : List Value} {w : am_W} {na2 m2 cc2 a : Nat} {As r : List Value} (hc : am_cx Γ l mid (d + 1) Q p e R s m args below meth c Z) (hd : decode (am_mt mid).2.1 ((am_ct mid).1.getD n 0) = .ok (.invokevirtual h, 3)) (hn : ((am_ct mid).1.getD (n + 1) 0) = ((am_ct mid).1.getD n 0) + 3) (hm : ((am_mt mid).2.2.2.2.1, h, m2, 0) ∈ am_LM) (hna : na2 = (am_mt m2).2.2.2.2.2.2) (hfl : (am_mt m2).2.2.2.2.2.1 = 0) (hb1 : (am_bd m2).1 = 0) (hb2 : (am_bd m2).2 = 0) (hcl : (Nat.beq cc2 ((am_mt m2).2.2.2.2.1 + 1) || (Nat.beq cc2 90 && Nat.beq (am_mt m2).2.2.2.2.1 16)) = true) (h20 : Nat.ble 20 m2 = true) (hle : Nat.blt (m2 - 20) am_nL.length = true) (hK : ∀ n ls st w, K n ls st w → am_At Γ l mid p e R s m args below meth c Z n ls st w) (hlen : (Value.ref a :: As).length = na2) (hsh : (w.1 a).1 = cc2) (h8 : am_cat r ≤ 8) (hs2 : am_Cl Γ l d m2 (.ref a :: As) (am_zc w 0 0) (fun v w' => K (n + 1) ls (v ++ r) (am_zc w' w.2.2.2.2.2.1 w.2.2.2.2.2.2))) : am_At Γ l mid p e R s m args below meth c Z n ls ((Value.ref a :: As).reverse ++ r) w := by
  obtain ⟨hx, hb, hml, hown, hts, henv, hini, hfr, hlo, hbc, hbs, hsz, hret⟩ := hc
  intro H locs lc hr hcn hS hl hln
  have hisM : am_isM (m2 - 20) := am_LM_is2 hm h20 hle
  have hlk := hts _ (am_LM_in hm (show (0 : Nat) ≠ 3 by decide))
  obtain ⟨f1, f2, f3, f4, f5, f6⟩ := am_mfx hisM
  have hml9 := am_maxL hisM
  have hnp : As.length = (am_mt (m2)).2.2.2.2.2.2 - 1 := by
    rw [← hna, ← hlen]
    simp
  rw [hfl] at f4
  have hcell := am_recv hr henv hS (am_o_lt m2) hsh hcl
  rw [← f5] at hcell
  obtain ⟨b, hb0, hcell⟩ := hcell
  have hcw : CallW R s args (am_Rn (am_mt mid).2.2.2.2.1) (am_mt (m2)).1.cls h (am_mt (m2)).1 (am_mt (m2)).2.1 (am_mt (m2)).2.2.1 (am_mt (m2)).2.2.2.1 (am_ws (m2)) (am_rm d (m2)) (am_bd (m2)).1 (am_bd (m2)).2 ((am_mt (m2)).2.2.2.2.2.2 - 1) :=
    ⟨callB_of _ hts (am_good hisM) rfl rfl rfl (hts _ (am_mw0 hisM)) hlk ⟨f2, f3, f4⟩ (am_hR hml9 hfr hlo), hts _ (am_mw1 hisM hfl).1, hts _ (am_mw1 hisM hfl).2⟩
  have e5 : (Value.ref a :: As).map (am_cv Γ) = Value.ref b :: As.map (am_cv Γ) := by rw [List.map_cons, hb0]
  refine am_call (mc := (am_bd (m2)).1) (ms := (am_bd (m2)).2) (rest := r.map (am_cv Γ)) (va_runV ⟨hx, hb, hml, hown, hts⟩ hs2 hcw (b := b) (As := As.map (am_cv Γ)) ⟨am_blind Γ _ _, hcell, by rw [← e5]; exact am_pre henv hS hr⟩ rfl (by rw [List.length_map]; exact hnp) (by rw [hl.1, hln]) ?_ (by show 2 * 0 + _ ≤ 8; rw [am_cat_sum (am_env_cat henv)]; exact am_h8 h8) hd ⟨am_hc0 hb1 hcn.1 hbc, am_hc0 hb2 hcn.2 hbs⟩) hS (fun v w' H1 locs1 hq hrep hS1 => ?_)
  · show ((Value.ref a :: As).reverse ++ r).map (am_cv Γ) = _
    rw [List.map_append, List.map_reverse, e5]
    simp
  · have hqq := hK _ _ _ _ hq H1 locs1 lc hrep hcn hS1 hl hln
    rw [hn, List.map_append] at hqq
    rw [hb1, hb2]
    exact hqq
theorem am_hs {Γ : am_G} {l : Launch} {mid d : Nat} {Q : am_Q} {p : Program} {e : Env} {R : Room} {s : State} {m : MethodId} {args : Array Value} {below : List Frame} {meth : Method} {c : Code} {Z : State → Prop} {K : am_K} {n h : Nat} {ls : List Value} {w : am_W} {na2 m2 kd : Nat} {as r : List Value} (hc : am_cx Γ l mid (d + 1) Q p e R s m args below meth c Z) (hd : decode (am_mt mid).2.1 ((am_ct mid).1.getD n 0) = .ok (.invokestatic h, 3)) (hn : ((am_ct mid).1.getD (n + 1) 0) = ((am_ct mid).1.getD n 0) + 3) (hm : ((am_mt mid).2.2.2.2.1, h, m2, kd) ∈ am_LM) (hkd : kd = 1 ∨ kd = 3) (hna : na2 = (am_mt m2).2.2.2.2.2.2) (hfl : (am_mt m2).2.2.2.2.2.1 = 1) (hb1 : (am_bd m2).1 = 0) (hb2 : (am_bd m2).2 = 0) (h20 : Nat.ble 20 m2 = true) (hle : Nat.blt (m2 - 20) am_nL.length = true) (hK : ∀ n ls st w, K n ls st w → am_At Γ l mid p e R s m args below meth c Z n ls st w) (hlen : as.length = na2) (h8 : am_cat r ≤ 8) (hs1 : am_Cl Γ l d m2 as (am_zc w 0 0) (fun v w' => K (n + 1) ls (v ++ r) (am_zc w' w.2.2.2.2.2.1 w.2.2.2.2.2.2))) : am_At Γ l mid p e R s m args below meth c Z n ls (as.reverse ++ r) w := by
  obtain ⟨hx, hb, hml, hown, hts, henv, hini, hfr, hlo, hbc, hbs, hsz, hret⟩ := hc
  intro H locs lc hr hcn hS hl hln
  have hisM : am_isM (m2 - 20) := am_LM_is2 hm h20 hle
  obtain ⟨f1, f2, f3, f4, f5, f6⟩ := am_mfx hisM
  have hml9 := am_maxL hisM
  rw [hfl] at f4
  have hR : d + 1 + 1 ≤ R.frames ∧ 8 + ((am_mt (m2)).2.2.1 + 11) + 96 * (d + 1) ≤ R.locals := am_hR hml9 hfr hlo
  have hrun : va_Run p l e R s m args below meth c H locs w.2.2.2.2.2.1 w.2.2.2.2.2.2 (am_bd (m2)).1 (am_bd (m2)).2 (F0 m ((am_ct mid).1.getD n 0) lc ((as.reverse ++ r).map (am_cv Γ))) (r.map (am_cv Γ)) (am_Qc Γ (fun v w' => K (n + 1) ls (v ++ r) (am_zc w' w.2.2.2.2.2.1 w.2.2.2.2.2.2)) (as.map (am_cv Γ)).toArray) (am_A Γ) := by
    have hst : ((as.reverse ++ r).map (am_cv Γ)) = (as.map (am_cv Γ)).reverse ++ r.map (am_cv Γ) := by rw [List.map_append, List.map_reverse]
    have hW8 : 2 * 0 + ((r.map (am_cv Γ)).map fun v => v.category).sum ≤ 8 := by rw [am_cat_sum (am_env_cat henv)]; exact am_h8 h8
    have hM : Met l (am_mt m2).1 (am_ws m2) (am_rm d m2) (am_Pc Γ as (am_zc w 0 0)) (am_Qc Γ (fun v w' => K (n + 1) ls (v ++ r) (am_zc w' w.2.2.2.2.2.1 w.2.2.2.2.2.2))) (am_bd m2).1 (am_bd m2).2 (am_A Γ) := hs1
    have hst9 : (Cond.static (am_mt m2).1).before args s = true := hts _ (am_mw2 hisM hfl)
    rcases hkd with e | e <;> subst e
    · have hlk := hts _ (am_LM_in hm (show (1 : Nat) ≠ 3 by decide))
      have hcb : CallB R s args (am_Rn (am_mt mid).2.2.2.2.1) h (am_mt m2).1 (am_mt m2).2.1 (am_mt m2).2.2.1 (am_mt m2).2.2.2.1 (am_ws m2) (am_rm d m2) (am_bd m2).1 (am_bd m2).2 (am_mt m2).2.2.2.2.2.2 := callB_of _ hts (am_good hisM) rfl rfl rfl (hts _ (am_mw0 hisM)) hlk ⟨f2, f3, f4⟩ hR
      exact va_runS ⟨hx, hb, hml, hown, hts⟩ hM ⟨hcb, hst9⟩ ⟨am_blind Γ _ _, am_pre henv hS hr⟩ rfl (by rw [List.length_map, hlen]; exact hna) (by rw [hl.1, hln]) hst hW8 hd ⟨am_hc0 hb1 hcn.1 hbc, am_hc0 hb2 hcn.2 hbs⟩
    · have hnest : va_Nw (.methodLinkNest (am_Rn (am_mt mid).2.2.2.2.1) h (am_mt m2).1 "TeaTrolley") s := by
        have h9 := henv.2.2.2.2.2.1 ((am_mt mid).2.2.2.2.1, h, m2, 3) hm rfl
        exact h9
      have hcb : va_CN R s args (am_Rn (am_mt mid).2.2.2.2.1) h (am_mt m2).1 "TeaTrolley" (am_mt m2).2.1 (am_mt m2).2.2.1 (am_mt m2).2.2.2.1 (am_ws m2) (am_rm d m2) (am_bd m2).1 (am_bd m2).2 (am_mt m2).2.2.2.2.2.2 := va_cnB _ hts (am_good hisM) rfl rfl rfl hnest (hts _ (am_mw0 hisM)) ⟨f2, f3, f4⟩ hR
      exact va_runSN ⟨hx, hb, hml, hown, hts⟩ hM ⟨hcb, hst9, trivial⟩ ⟨am_blind Γ _ _, am_pre henv hS hr⟩ rfl (by rw [List.length_map, hlen]; exact hna) (by rw [hl.1, hln]) hst hW8 hd ⟨am_hc0 hb1 hcn.1 hbc, am_hc0 hb2 hcn.2 hbs⟩
  refine am_call hrun hS (fun v w' H1 locs1 hq hrep hS1 => ?_)
  have hqq := hK _ _ _ _ hq H1 locs1 lc hrep hcn hS1 hl hln
  rw [hn, List.map_append] at hqq
  rw [hb1, hb2]
  exact hqq
theorem am_rt_all : (List.range 280).all (fun i => !Nat.beq (am_mi0 i).2.2.2.2.2.1 2 || decide ((am_mi0 i).2.2.2.1 = none)) = true := by decide +kernel
theorem am_initV {mid : Nat} (h : am_isM (mid - 20)) (hf : (am_mt mid).2.2.2.2.2.1 = 2) : (am_mt mid).2.2.2.1 = none := by
  have := List.all_eq_true.mp am_rt_all _ (List.mem_range.mpr h.1)
  have hf : (am_mi0 (mid - 20)).2.2.2.2.2.1 = 2 := hf
  rw [hf] at this
  have h2 : decide ((am_mi0 (mid - 20)).2.2.2.1 = none) = true := by simpa using this
  exact of_decide_eq_true h2

theorem am_hi {Γ : am_G} {l : Launch} {mid d : Nat} {Q : am_Q} {p : Program} {e : Env} {R : Room} {s : State} {m : MethodId} {args : Array Value} {below : List Frame} {meth : Method} {c : Code} {Z : State → Prop} {K : am_K} {n h : Nat} {ls : List Value} {w : am_W} {na2 m2 qc qs a : Nat} {As r : List Value} (hc : am_cx Γ l mid (d + 1) Q p e R s m args below meth c Z) (hd : decode (am_mt mid).2.1 ((am_ct mid).1.getD n 0) = .ok (.invokespecial h, 3)) (hn : ((am_ct mid).1.getD (n + 1) 0) = ((am_ct mid).1.getD n 0) + 3) (hm : ((am_mt mid).2.2.2.2.1, h, m2, 2) ∈ am_LM) (hna : na2 = (am_mt m2).2.2.2.2.2.2) (hfl : (am_mt m2).2.2.2.2.2.1 = 2) (hb1 : qc = (am_bd m2).1) (hb2 : qs = (am_bd m2).2) (h20 : Nat.ble 20 m2 = true) (hle : Nat.blt (m2 - 20) am_nL.length = true) (hK : ∀ n ls st w, K n ls st w → am_At Γ l mid p e R s m args below meth c Z n ls st w) (hlen : (Value.ref a :: As).length = na2) (ha1 : 1 ≤ a) (ha2 : a < 5000) (h8 : am_cat r ≤ 8) (h81 : w.2.2.2.2.2.1 + qc ≤ (am_bd mid).1) (h82 : w.2.2.2.2.2.2 + qs ≤ (am_bd mid).2) (hs2 : am_Cl Γ l d m2 (.ref a :: As) (am_zc w 0 0) (fun v w' => K (n + 1) ls (v ++ r) (am_zc w' (w.2.2.2.2.2.1 + qc) (w.2.2.2.2.2.2 + qs)))) : am_At Γ l mid p e R s m args below meth c Z n ls ((Value.ref a :: As).reverse ++ r) w := by
  obtain ⟨hx, hb, hml, hown, hts, henv, hini, hfr, hlo, hbc, hbs, hsz, hret⟩ := hc
  intro H locs lc hr hcn hS hl hln
  have hisM : am_isM (m2 - 20) := am_LM_is2 hm h20 hle
  have hlk := hts _ (am_LM_in hm (show (2 : Nat) ≠ 3 by decide))
  obtain ⟨f1, f2, f3, f4, f5, f6⟩ := am_mfx hisM
  have hml9 := am_maxL hisM
  rw [hfl] at f4
  have hR : d + 1 + 1 ≤ R.frames ∧ 8 + ((am_mt (m2)).2.2.1 + 11) + 96 * (d + 1) ≤ R.locals := am_hR hml9 hfr hlo
  have hnp : As.length = (am_mt (m2)).2.2.2.2.2.2 - 1 := by
    rw [← hna, ← hlen]
    simp
  have e5 : (Value.ref a :: As).map (am_cv Γ) = Value.ref (Γ.2.2.1 + a) :: As.map (am_cv Γ) := by rw [List.map_cons, am_cv_own ha1 ha2]
  have hrt : (am_mt (m2)).2.2.2.1 = none := am_initV hisM hfl
  have hM : Met l (am_mt (m2)).1 (am_ws (m2)) (am_rm d (m2)) (am_Pc Γ (Value.ref a :: As) (am_zc w 0 0)) (am_Qc Γ (fun v w' => K (n + 1) ls (v ++ r) (am_zc w' (w.2.2.2.2.2.1 + qc) (w.2.2.2.2.2.2 + qs)))) (am_bd (m2)).1 (am_bd (m2)).2 (am_A Γ) := hs2
  refine am_call (mc := (am_bd (m2)).1) (ms := (am_bd (m2)).2) (rest := r.map (am_cv Γ)) (va_runI (bytes := (am_mt (m2)).2.1) (maxL := (am_mt (m2)).2.2.1) (b := Γ.2.2.1 + a) (As := As.map (am_cv Γ)) ⟨hx, hb, hml, hown, hts⟩ hM ⟨callB_of _ hts (am_good hisM) (by unfold am_ws; rw [hrt]) rfl rfl (hts _ (am_mw0 hisM)) hlk ⟨f2, f3, f4⟩ hR, f6 hfl, hts _ (am_mw3 hisM hfl)⟩ ⟨am_blind Γ _ _, by rw [← e5]; exact am_pre henv hS hr⟩ rfl (by rw [List.length_map]; exact hnp) (by rw [hl.1, hln]) ?_ (by show 2 * 0 + _ ≤ 8; rw [am_cat_sum (am_env_cat henv)]; exact am_h8 h8) hd ⟨am_hc1 hb1 h81 hbc, am_hc1 hb2 h82 hbs⟩) hS (fun v w' H1 locs1 hq hrep hS1 => ?_)
  · show ((Value.ref a :: As).reverse ++ r).map (am_cv Γ) = _
    rw [List.map_append, List.map_reverse, e5]
    simp
  · have hqq := hK _ _ _ _ hq H1 locs1 lc hrep ⟨h81, h82⟩ hS1 hl hln
    rw [hn, List.map_append] at hqq
    rw [← hb1, ← hb2]
    exact hqq
theorem am_c_invokevirtual {Γ : am_G} {l : Launch} {mid d : Nat} {Q : am_Q} {p : Program} {e : Env} {R : Room} {s : State} {m : MethodId} {args : Array Value} {below : List Frame} {meth : Method} {c : Code} {Z : State → Prop} {K : am_K} {n h : Nat} {ls st : List Value} {w : am_W} {q : Nat} (hc : am_cx Γ l mid (d + 1) Q p e R s m args below meth c Z) (hk : am_ck mid n h (.invokevirtual q)) (hK : ∀ n ls st w, K n ls st w → am_At Γ l mid p e R s m args below meth c Z n ls st w) (hs : am_stp (am_Cl Γ l d) (am_bd mid) Q K (.invokevirtual q) n ls st w) : am_At Γ l mid p e R s m args below meth c Z n ls st w := by
  unfold am_ck am_ck1 at hk
  dsimp only at hk
  simp only [Bool.and_eq_true] at hk
  obtain ⟨⟨⟨⟨⟨⟨⟨⟨⟨hd, hn⟩, hm⟩, hna⟩, hfl⟩, hb1⟩, hb2⟩, hcl⟩, h20⟩, hle⟩ := hk
  obtain ⟨as, r, e0, hlen, hs1⟩ := am_tk_ex _ _ _ _ hs
  subst e0
  rw [List.append_nil] at hs1
  split at hs1
  · rename_i a As
    obtain ⟨hsh, hs2⟩ := hs1
    by_cases h8 : Nat.ble (am_cat r) 8 = true
    · rw [h8, cond_true] at hs2
      exact am_hv hc (am_dq_ok hd) (am_beq hn) (am_m4_ok hm) (am_beq hna) (am_beq hfl) (am_beq hb1) (am_beq hb2) hcl h20 hle hK hlen hsh (Nat.le_of_ble_eq_true h8) hs2
    · rw [Bool.eq_false_iff.mpr h8, cond_false] at hs2
      exact hs2.elim
  · exact hs1.elim
theorem am_c_invokestatic {Γ : am_G} {l : Launch} {mid d : Nat} {Q : am_Q} {p : Program} {e : Env} {R : Room} {s : State} {m : MethodId} {args : Array Value} {below : List Frame} {meth : Method} {c : Code} {Z : State → Prop} {K : am_K} {n h : Nat} {ls st : List Value} {w : am_W} {q : Nat} (hc : am_cx Γ l mid (d + 1) Q p e R s m args below meth c Z) (hk : am_ck mid n h (.invokestatic q)) (h0 : Nat.beq (q / 2048) 0 = false) (hK : ∀ n ls st w, K n ls st w → am_At Γ l mid p e R s m args below meth c Z n ls st w) (hs : am_stp (am_Cl Γ l d) (am_bd mid) Q K (.invokestatic q) n ls st w) : am_At Γ l mid p e R s m args below meth c Z n ls st w := by
  unfold am_ck am_ck1 at hk
  dsimp only at hk
  rw [h0, cond_false] at hk
  simp only [Bool.and_eq_true, Bool.or_eq_true] at hk
  obtain ⟨⟨⟨⟨⟨⟨⟨⟨hd, hn⟩, hm⟩, hna⟩, hfl⟩, hb1⟩, hb2⟩, h20⟩, hle⟩ := hk
  obtain ⟨as, r, e0, hlen, hs1⟩ := am_tk_ex _ _ _ _ hs
  subst e0
  rw [List.append_nil, h0, cond_false] at hs1
  by_cases h8 : Nat.ble (am_cat r) 8 = true
  · rw [h8, cond_true] at hs1
    rcases hm with g | g
    · exact am_hs hc (am_dq_ok hd) (am_beq hn) (am_m4_ok g) (Or.inl rfl) (am_beq hna) (am_beq hfl) (am_beq hb1) (am_beq hb2) h20 hle hK hlen (Nat.le_of_ble_eq_true h8) hs1
    · exact am_hs hc (am_dq_ok hd) (am_beq hn) (am_m4_ok g) (Or.inr rfl) (am_beq hna) (am_beq hfl) (am_beq hb1) (am_beq hb2) h20 hle hK hlen (Nat.le_of_ble_eq_true h8) hs1
  · rw [Bool.eq_false_iff.mpr h8, cond_false] at hs1
    exact hs1.elim
theorem am_c_invokespecial {Γ : am_G} {l : Launch} {mid d : Nat} {Q : am_Q} {p : Program} {e : Env} {R : Room} {s : State} {m : MethodId} {args : Array Value} {below : List Frame} {meth : Method} {c : Code} {Z : State → Prop} {K : am_K} {n h : Nat} {ls st : List Value} {w : am_W} {q : Nat} (hc : am_cx Γ l mid (d + 1) Q p e R s m args below meth c Z) (hk : am_ck mid n h (.invokespecial q)) (hK : ∀ n ls st w, K n ls st w → am_At Γ l mid p e R s m args below meth c Z n ls st w) (hs : am_stp (am_Cl Γ l d) (am_bd mid) Q K (.invokespecial q) n ls st w) : am_At Γ l mid p e R s m args below meth c Z n ls st w := by
  unfold am_ck am_ck1 at hk
  dsimp only at hk
  simp only [Bool.and_eq_true] at hk
  obtain ⟨⟨⟨⟨⟨⟨⟨⟨hd, hn⟩, hm⟩, hna⟩, hfl⟩, hb1⟩, hb2⟩, h20⟩, hle⟩ := hk
  obtain ⟨as, r, e0, hlen, hs1⟩ := am_tk_ex _ _ _ _ hs
  subst e0
  rw [List.append_nil] at hs1
  split at hs1
  · rename_i a As
    obtain ⟨ha1, ha2, hs2⟩ := hs1
    by_cases h8 : (Nat.ble (am_cat r) 8 && (Nat.ble (w.2.2.2.2.2.1 + q / 2097152 % 1000) (am_bd mid).1 && Nat.ble (w.2.2.2.2.2.2 + q / 2097152000) (am_bd mid).2)) = true
    · rw [h8, cond_true] at hs2
      simp only [Bool.and_eq_true] at h8
      obtain ⟨h8, h81, h82⟩ := h8
      exact am_hi hc (am_dq_ok hd) (am_beq hn) (am_m4_ok hm) (am_beq hna) (am_beq hfl) (am_beq hb1) (am_beq hb2) h20 hle hK hlen ha1 ha2 (Nat.le_of_ble_eq_true h8) (Nat.le_of_ble_eq_true h81) (Nat.le_of_ble_eq_true h82) hs2
    · rw [Bool.eq_false_iff.mpr h8, cond_false] at hs2
      exact hs2.elim
  · exact hs1.elim
