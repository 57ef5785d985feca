/-! room: the law's own method, with its table; the step of the law at its call -/
noncomputable def rm_ws : List Cond := .codeWith (am_mt 301).1 (am_mt 301).2.1 (am_mt 301).2.2.1 (am_mt 301).2.2.2.1 [(0, 10, 13, 13)] :: lw_g
theorem rm_goodc {w : Cond} (h : w ∈ lw_g) : w ∈ lw_g ∧ ((w.onTables && w.keeps) = true ∨ ∃ ty, w = .arrayClass ty) := ⟨h, good_of_word (List.mem_filter.mp h).2⟩
theorem rm_good : GoodIn lw_g rm_ws := fun w hw => (List.mem_cons.mp hw).elim (fun e => by rw [e]; exact rm_goodc (vx_rw 5 rfl)) (fun h => rm_goodc h)
theorem rm_good0 : GoodIn lw_g (am_ws 300) := fun w hw => (List.mem_cons.mp hw).elim (fun e => by rw [e]; exact rm_goodc (vx_rw 0 rfl)) (fun h => rm_goodc h)
theorem rm_n300 : (parseMethodDescriptor (am_mt 300).1.desc).map (fun d => d.parameters.length) = some 2 := by decide +kernel
theorem rm_n301 : (parseMethodDescriptor (am_mt 301).1.desc).map (fun d => d.parameters.length) = some 4 := by decide +kernel
def rm_q (a : q_A) (p0 p1 : Int) (I L : Nat → Nat → Int) (lp tp : Nat) : x_Q := fun r w => (rm_v a p0 p1 ∧ r = [x_i 0] ∧ w = (I, x_u L 203 0 (q_rmv a p0 p1), lp, tp)) ∨ (¬ rm_v a p0 p1 ∧ r = [x_i 1] ∧ w = (I, L, lp, tp))
theorem rm_301 {g : x_G} {d : Nat} (hg : g.2.2 ≤ 3072) (hd : 6 ≤ d) {I L : Nat → Nat → Int} {lp tp : Nat} {a : q_A} {p0 p1 : Int} (hP : q_JP a) (hC : q_JC I lp a) (r0 : x_rg p0) (r1 : x_rg p1) : Met g.2.1 (am_mt 301).1 rm_ws (am_rm (d + 1) 301) (rm_Pc g [x_r 1, x_i p0, x_i p1, x_r 203] (I, L, lp, tp)) (am_Qc g.1 (x_lL g.2.2 (rm_q a p0 p1 I L lp tp))) 1 8 (am_A g.1) := by
  refine va_MetW (cc := (am_mt 301).2.1) (maxL := (am_mt 301).2.2.1) (ret := (am_mt 301).2.2.2.1) (hh := [(0, 10, 13, 13)]) (by decide +kernel) rfl ?_
  intro p e s m args below meth c s₁ B hml hv
  obtain ⟨⟨rfl, hr, he⟩, hx⟩ := hv
  have hcat := am_env_cat he
  have hts : ∀ w ∈ rm_ws, w.before _ s = true := atoms_spec (ws := rm_ws) B.pre
  have hts2 : ∀ w ∈ lw_g, w.before _ s = true := fun w hw => hts w (List.mem_cons_of_mem _ hw)
  have htab := vx_table (x := (am_mt 301).1) B (hts _ List.mem_cons_self)
  have hown : s.vm.findClass (am_Rn (am_mt 301).2.2.2.2.1) = some m.cls := by rw [← rm_cls301]; exact findClass_of_methodNamed B.named
  have hown2 : s.vm.findClass "TeaTrolleyLaw" = some m.cls := by rw [rm_L] at hown; exact hown
  obtain ⟨hl, hlen⟩ := am_ent_lv (Γ := g.1) hcat (as := ([x_r 1, x_i p0, x_i p1, x_r 203] : List x_V).map x_cV) (n := (am_mt 301).2.2.1) (fun v hv => by
    simp only [List.map_cons, List.map_nil, List.mem_cons, List.not_mem_nil, or_false] at hv
    rcases hv with rfl | rfl | rfl | rfl <;> rfl) (by rw [rm_ml301]; show 4 ≤ 5; decide)
  have hsz : g.1.2.2.1 + 1 ≤ s.heap.size := by
    have h1 := hr.1.2.1.1
    have h2 := hr.2.2.2.1
    omega
  have hcx : am_cx g.1 g.2.1 301 (d + 1) (x_lL g.2.2 (rm_q a p0 p1 I L lp tp)) p e (am_rm (d + 1) 301) s m ((([x_r 1, x_i p0, x_i p1, x_r 203] : List x_V).map x_cV).map (am_cv g.1)).toArray below meth c (MQ below (am_Qc g.1 (x_lL g.2.2 (rm_q a p0 p1 I L lp tp))) ((([x_r 1, x_i p0, x_i p1, x_r 203] : List x_V).map x_cV).map (am_cv g.1)).toArray s 1 8 (am_A g.1)) :=
    ⟨B.exec, B.bytes, hml, hown, hts2, he, (fun h2 => absurd (rm_fl301.symm.trans h2) (by decide)), Nat.le_refl _, Nat.le_refl _, Nat.le_refl _, Nat.le_refl _, hsz, fun r w H locs pc lc hq hrep hcn hS hrt => am_retM (mid := 301) B.exec B.bytes B.returns B.notSynchronized he r w H locs pc lc hq hrep hcn hS hrt⟩
  have hth : am_At g.1 g.2.1 301 p e (am_rm (d + 1) 301) s m ((([x_r 1, x_i p0, x_i p1, x_r 203] : List x_V).map x_cV).map (am_cv g.1)).toArray below meth c (MQ below (am_Qc g.1 (x_lL g.2.2 (rm_q a p0 p1 I L lp tp))) ((([x_r 1, x_i p0, x_i p1, x_r 203] : List x_V).map x_cV).map (am_cv g.1)).toArray s 1 8 (am_A g.1)) 5 (([x_n, x_n, x_n, x_n, x_n] : List x_V).map x_cV) (([x_i p1, x_i p0, x_r 1, x_i 0, x_r 203] : List x_V).map x_cV) (am_zc (x_cW g.2.2 (I, L, lp, tp)) 0 0) := by
    intro H locs lc hrep hcn hS hl hlen
    rw [rm_q5]
    obtain ⟨b, hb0, hcell⟩ := am_recv (o := 11) (a := 1) (cc2 := 12) hrep he hS (by decide) rfl rfl
    have e5 : (([x_r 1, x_i p0, x_i p1] : List x_V).map x_cV).map (am_cv g.1) = Value.ref b :: (([x_i p0, x_i p1] : List x_V).map x_cV).map (am_cv g.1) := by
      show am_cv g.1 (.ref 1) :: _ = _
      rw [hb0]
    have hcw : CallW (am_rm (d + 1) 301) s ((([x_r 1, x_i p0, x_i p1, x_r 203] : List x_V).map x_cV).map (am_cv g.1)).toArray "TeaTrolleyLaw" (am_mt 300).1.cls 7 (am_mt 300).1 (am_mt 300).2.1 (am_mt 300).2.2.1 (am_mt 300).2.2.2.1 (am_ws 300) (am_rm d 300) 1 8 2 :=
      ⟨callB_of _ hts2 rm_good0 rfl rfl rfl (hts2 _ (vx_rw 1 rfl)) (hts2 _ (vx_rw 4 rfl)) ⟨by decide +kernel, by decide +kernel, rm_n300⟩ ⟨Nat.le_refl _, by rw [rm_ml300]; show 8 + (3 + 11) + 96 * (d + 1) ≤ 96 * (d + 1 + 1); omega⟩, hts2 _ (vx_rw 2 rfl), hts2 _ (vx_rw 3 rfl)⟩
    have hrun := vx_runV (e := e) (H := H) (locs := locs) (cells := 0) (slots := 0) (below := below) (meth := meth) (b := b) (g := F0 m 5 lc ((([x_i p1, x_i p0, x_r 1, x_i 0, x_r 203] : List x_V).map x_cV).map (am_cv g.1))) (rest := (([x_i 0, x_r 203] : List x_V).map x_cV).map (am_cv g.1)) (As := (([x_i p0, x_i p1] : List x_V).map x_cV).map (am_cv g.1)) ⟨B.exec, B.bytes, hml, hown2, hts2⟩ (rm_300 (L := L) (tp := tp) (d := d) hg hd hP hC r0 r1) hcw ⟨rm_blind _ _ _, by rw [rm_cls300]; exact hcell, fun U hU hW => ⟨by rw [← e5]; exact am_pre he hS hrep U hU hW, am_ex_warm (by rw [hU]; exact am_ex_kept hx hS.2.1) hW⟩⟩ rfl rfl (by show lc.size = _; rw [hl.1, hlen]) (by
        show am_cv g.1 _ :: am_cv g.1 _ :: am_cv g.1 (.ref 1) :: _ = _
        rw [hb0]
        rfl) (by show 2 * 0 + _ ≤ 8; rw [am_cat_sum hcat]; exact (by decide : 2 * 0 + 2 ≤ 8)) rm_e5 ⟨by show 0 + 1 ≤ 1; decide, by show 0 + 8 ≤ 8; decide⟩
    intro T hT X
    rcases hrun T hT X with ⟨v, st₀, t, T', L', h0, X', hL, e1, e2, hq, st⟩ | ⟨q, st₀, t, T', L', E, ce, h0, X', hL, e1, e2, hq, hce, hcv, hcl, st⟩
    · obtain ⟨⟨r, w', hv, hlen9, ⟨r', w'', c9, s9, er, ew, hvv, er', ew'⟩, hrep9⟩, hF⟩ := hq
      subst er'; subst ew'; subst er; subst ew
      obtain ⟨k1, k2, k3⟩ := vx_keep (A0 := am_A g.1) (A1 := am_A g.1) h0 e1 hS (fun _ _ h => h) (fun _ h => h) hL hF
      cases hv
      have hrg := q_rmv_rg hP hvv.1 hvv.2
      have K6 := v_roomL6 (E := fun _ _ _ _ _ _ _ _ _ _ => True) (g := g) (k := d) (Q := rm_q a p0 p1 I L lp tp) (I := I) (L := L) (lp := lp) (tp := tp) (v := q_rmv a p0 p1) ⟨⟨by omega, by omega⟩, Or.inl ⟨hvv, rfl, rfl⟩⟩ hg (d + 1) (Nat.le_refl _) p e _ s m _ below meth c _ trivial hcx T'.heap (locs ++ L') lc (by rw [e1]; exact hrep9) ⟨Nat.le_refl _, Nat.le_refl _⟩ k3 hl hlen
      rw [rm_q6] at K6
      obtain ⟨t2, a1, b1⟩ := K6 T' rfl X'
      exact ⟨t2, st t2 a1, b1⟩
    · obtain ⟨rfl, hnv, hrep9, hF⟩ := hq
      obtain ⟨k1, k2, k3⟩ := vx_keep (A0 := am_A g.1) (A1 := am_A g.1) h0 e1 hS (fun _ _ h => h) (fun _ h => h) hL hF
      have KX := vx_catch (p := p) (l := g.2.1) (e := e) (R := am_rm (d + 1) 301) (meth := meth) (below := below) (locs := locs ++ L') (cells := 0 + 1) (slots := 0 + 8) (ls := lc) (rest := (([x_i 0, x_r 203] : List x_V).map x_cV).map (am_cv g.1)) (pc := 5) (H := T'.heap) (q := q) (name := "java/util/NoSuchElementException") (Q := MQ below (am_Qc g.1 (x_lL g.2.2 (rm_q a p0 p1 I L lp tp))) ((([x_r 1, x_i p0, x_i p1, x_r 203] : List x_V).map x_cV).map (am_cv g.1)).toArray s 1 8 (am_A g.1)) hown2 [] { startPc := 0, endPc := 10, handlerPc := 13, catchType := 13 } [] htab (fun z hz => nomatch hz) rfl (by decide) (hts2 _ (vx_rw 9 rfl)) (va_any rfl hx.2.2.2.2.2.2.2) (by rw [e1]; exact hce) hcv hcl (by
        refine lv_astore (pc := 13) (i := 4) (nL := 5) (lv := []) B.exec B.bytes rm_e13 ⟨by rw [hl.1]; rfl, hl.2.1, fun q hq => by cases hq⟩ (by decide) rfl (fun ls' hls => ?_)
        refine lv_iconst (pc := 15) (n := 1) B.exec B.bytes rm_e15 rfl ?_
        exact hcx.2.2.2.2.2.2.2.2.2.2.2.2 [.int 1] (am_zc (x_cW g.2.2 (I, L, lp, tp)) 1 8) T'.heap (locs ++ L') 16 ls' ⟨[x_i 1], _, 1, 8, rfl, rfl, Or.inr ⟨hnv, rfl, rfl⟩⟩ (by rw [e1]; exact hrep9) ⟨Nat.le_refl _, Nat.le_refl _⟩ k3 ⟨rm_e16, .int, rm_r301, rfl⟩)
      obtain ⟨t2, a1, b1⟩ := KX T' rfl X'
      exact ⟨t2, st.trans a1, b1⟩
  have K := v_roomL0 (E := fun p e R s m args below meth c Z => am_At g.1 g.2.1 301 p e R s m args below meth c Z 5 (([x_n, x_n, x_n, x_n, x_n] : List x_V).map x_cV) (([x_i p1, x_i p0, x_r 1, x_i 0, x_r 203] : List x_V).map x_cV) (am_zc (x_cW g.2.2 (I, L, lp, tp)) 0 0)) (g := g) (k := d) (Q := rm_q a p0 p1 I L lp tp) (I := I) (L := L) (lp := lp) (tp := tp) (fun _ d _ p e R s m args below meth c Z hE _ => hE) hg (d + 1) (Nat.le_refl _) p e _ s m _ below meth c _ hth hcx s.heap [] _ hr ⟨Nat.zero_le _, Nat.zero_le _⟩ ⟨Nat.le_refl _, fun q _ _ => rfl, fun q hq => by cases hq⟩ hl hlen
  rw [rm_q0] at K
  rw [lg_entry_eq]
  exact K
theorem rm_l162 : (am_ct 286).1.getD 163 0 = (am_ct 286).1.getD 162 0 + 3 := by decide +kernel
theorem rm_dl : decode (am_mt 286).2.1 ((am_ct 286).1.getD 162 0) = .ok (.invokestatic 42, 3) := by decide +kernel
theorem whole_H0 {g : x_G} {k : Nat} {Q : x_Q} : ∀ (i : Int) (c s : Nat) (I L : Nat → Nat → Int) (lp tp : Nat) (a : q_A) (p0 p1 : Int), q_JP a → q_JC I lp a → x_rg p0 → x_rg p1 → c + 1 ≤ 601024 → s + 8 ≤ 7293034 → ((0 ≤ p0 ∧ p0 < (j_R a : Int)) ∧ (0 ≤ p1 ∧ p1 ≤ 6) → x_SL g (k + 140 + 1) Q (c + 1) (s + 8) 163 [x_r 6000, x_r 1, x_r 179, x_r 203, x_i i, x_n, x_n] [x_i 0] (I, x_u L 203 0 (q_rmv a p0 p1), lp, tp)) → (¬ ((0 ≤ p0 ∧ p0 < (j_R a : Int)) ∧ (0 ≤ p1 ∧ p1 ≤ 6)) → x_SL g (k + 140 + 1) Q (c + 1) (s + 8) 163 [x_r 6000, x_r 1, x_r 179, x_r 203, x_i i, x_n, x_n] [x_i 1] (I, L, lp, tp)) → x_SL g (k + 140 + 1) Q c s 162 [x_r 6000, x_r 1, x_r 179, x_r 203, x_i i, x_n, x_n] [x_r 203, x_i p1, x_i p0, x_r 1] (I, L, lp, tp) := by
  intro i c s I L lp tp a p0 p1 hP hC r0 r1 hc hs h1 h0 hg d hd p e R s' m args below meth cc Z hE hcx H locs lc hr hcn hS hl hln
  obtain ⟨hx, hb, hml, hown, hts, henv, hini, hfr, hlo, hbc, hbs, hsz, hret⟩ := id hcx
  obtain ⟨d', rfl⟩ : ∃ d', d = d' + 1 + 1 := ⟨d - 2, by omega⟩
  have hown2 : s'.vm.findClass "TeaTrolleyLaw" = some m.cls := by rw [rm_L286] at hown; exact hown
  have hcw : vx_CSW R s' args "TeaTrolleyLaw" 42 (am_mt 301).1 (am_mt 301).2.1 (am_mt 301).2.2.1 (am_mt 301).2.2.2.1 [(0, 10, 13, 13)] rm_ws (am_rm (d' + 1) 301) 1 8 4 :=
    ⟨⟨rfl, rfl, by show d' + 1 + 1 + 1 ≤ R.frames; omega, by rw [rm_ml301]; show 8 + (5 + 11) + 96 * (d' + 1 + 1) ≤ R.locals; omega, pay_in hts rm_good, List.mem_cons_self⟩, hts _ (vx_rw 5 rfl), hts _ (vx_rw 6 rfl), ⟨by decide +kernel, by decide +kernel⟩, fun sig h => by
      have h2 := rm_n301
      rw [h] at h2
      exact (Option.some.inj h2).symm, hts _ (vx_rw 8 rfl), hts _ (vx_rw 7 rfl)⟩
  have hrun := vx_runSW (e := e) (H := H) (locs := locs) (cells := c) (slots := s) (below := below) (meth := meth) (g := F0 m ((am_ct 286).1.getD 162 0) lc ((([x_r 203, x_i p1, x_i p0, x_r 1] : List x_V).map x_cV).map (am_cv g.1))) (rest := []) (As := (([x_r 1, x_i p0, x_i p1, x_r 203] : List x_V).map x_cV).map (am_cv g.1)) ⟨hx, hb, hml, hown2, hts⟩ (rm_301 (L := L) (tp := tp) (d := d') hg (by omega) hP hC r0 r1) hcw ⟨rm_blind _ _ _, fun U hU hW => ⟨am_pre henv hS hr U hU hW, am_ex_warm (by rw [hU]; exact am_ex_kept hE hS.2.1) hW⟩⟩ rfl rfl (by show lc.size = _; rw [hl.1, hln]) rfl (by show 2 * 0 + 0 ≤ 8; decide) rm_dl ⟨Nat.le_trans hc hbc, Nat.le_trans hs hbs⟩
  refine am_call hrun hS (fun v w' H1 locs1 hq hrep hS1 => ?_)
  obtain ⟨r', w'', c9, s9, er, ew, hh⟩ := hq
  rcases hh with ⟨hv, e1, e2⟩ | ⟨hv, e1, e2⟩
  · subst e1; subst e2; subst er; subst ew
    have K := h1 hv hg (d' + 1 + 1) hd p e R s' m args below meth cc Z hE hcx H1 locs1 lc hrep ⟨hc, hs⟩ hS1 hl hln
    rw [rm_l162] at K
    exact K
  · subst e1; subst e2; subst er; subst ew
    have K := h0 hv hg (d' + 1 + 1) hd p e R s' m args below meth cc Z hE hcx H1 locs1 lc hrep ⟨hc, hs⟩ hS1 hl hln
    rw [rm_l162] at K
    exact K
