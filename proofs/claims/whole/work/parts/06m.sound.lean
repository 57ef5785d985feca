/-! Math.floorMod; arrays of references -/
theorem Met_ofWF {l : Launch} {y : MethodName} {ws ws' : List Cond} {rm : Room} {Pc : Array Value → State → Prop} {Qc : Array Value → State → Outcome → State → Prop} {mc ms : Nat} {free : Addr → Prop} {cc : ByteArray} {maxL : Nat} {ret : Option FieldType}
    (hy : plainFor y = true) (hw : ws = Cond.code y cc maxL ret :: ws')
    (body : ∀ p e s m args below meth c s₁, BodyLoose p l y (headSpec ws rm) cc maxL ret e s m args below meth c s₁ → c.maxLocals = maxL → Pc args s →
      W p l e (headSpec ws rm).room s m args below meth c s.heap [] 0 0 (MQ below Qc args s mc ms free) (entryFrame m args maxL)) : Met l y ws rm Pc Qc mc ms free := by
  refine MetFree.of_bodySF (code := cc) (maxLocals := maxL) (ret := ret) hy ?_ ?_
  · intro args s m h hn
    obtain ⟨meth, c, h1, h2, h3, h4, h5, h6, -, -⟩ := Cond.code_spec hn (atoms_spec (ws := ws) h _ (by rw [hw]; exact List.mem_cons_self))
    exact ⟨meth, c, h1, h2, h3, h4, h5, h6⟩
  · intro p e s m args below meth c s₁ B hml hP _
    have hh0 : s₁.heap = s.heap := by rw [B.state]; rfl
    obtain ⟨t, a1, o, b1, b2, b3⟩ := body p e s m args below meth c s₁ B hml hP s₁ hh0 (Stand.of_body B)
    exact ⟨t, o, a1, b1, b2, ⟨b3.1, b3.2⟩⟩
theorem afm_d0 : decode cJ9_floorMod_7cf53 0 = .ok (.iload_n 0, 1) := by decide +kernel
theorem afm_d1 : decode cJ9_floorMod_7cf53 1 = .ok (.iload_n 1, 1) := by decide +kernel
theorem afm_d2 : decode cJ9_floorMod_7cf53 2 = .ok (.irem, 1) := by decide +kernel
theorem afm_d3 : decode cJ9_floorMod_7cf53 3 = .ok (.istore_n 2, 1) := by decide +kernel
theorem afm_d4 : decode cJ9_floorMod_7cf53 4 = .ok (.iload_n 0, 1) := by decide +kernel
theorem afm_d5 : decode cJ9_floorMod_7cf53 5 = .ok (.iload_n 1, 1) := by decide +kernel
theorem afm_d6 : decode cJ9_floorMod_7cf53 6 = .ok (.ixor, 1) := by decide +kernel
theorem afm_d7 : decode cJ9_floorMod_7cf53 7 = .ok (.ifCond .ge 11, 3) := by decide +kernel
theorem afm_d10 : decode cJ9_floorMod_7cf53 10 = .ok (.iload_n 2, 1) := by decide +kernel
theorem afm_d11 : decode cJ9_floorMod_7cf53 11 = .ok (.ifCond .eq 7, 3) := by decide +kernel
theorem afm_d14 : decode cJ9_floorMod_7cf53 14 = .ok (.iload_n 2, 1) := by decide +kernel
theorem afm_d15 : decode cJ9_floorMod_7cf53 15 = .ok (.iload_n 1, 1) := by decide +kernel
theorem afm_d16 : decode cJ9_floorMod_7cf53 16 = .ok (.iadd, 1) := by decide +kernel
theorem afm_d17 : decode cJ9_floorMod_7cf53 17 = .ok (.ireturn, 1) := by decide +kernel
theorem afm_d18 : decode cJ9_floorMod_7cf53 18 = .ok (.iload_n 2, 1) := by decide +kernel
theorem afm_d19 : decode cJ9_floorMod_7cf53 19 = .ok (.ireturn, 1) := by decide +kernel
def afm_rm : Room := { frames := 0, cells := 0, slots := 0, locals := 0 }
noncomputable def afm_ws : List Cond := [.code yJ9_floorMod_7cf53 cJ9_floorMod_7cf53 3 (some .int)]
theorem afm_met {l : Launch} {Γ : am_G} {w : am_W} {x y : Int32} (hy : ¬ y = 0) : Met l yJ9_floorMod_7cf53 afm_ws afm_rm (am_Pc Γ [.int x, .int y] w) (am_Qc Γ (fun r w' => r = [.int (am_fm x y)] ∧ w' = w)) 0 0 (am_A Γ) := by
  refine Met_ofWF (cc := cJ9_floorMod_7cf53) (maxL := 3) (ret := some .int) (by decide +kernel) rfl ?_
  intro p e s m args below meth c s₁ B hml hv
  obtain ⟨rfl, hr, he⟩ := hv
  have hx := B.exec
  have hb := B.bytes
  have hrt := B.returns
  have hlk := B.notSynchronized
  have hend : ∀ (v : Int32) (pc : Nat) (lc : Array Slot), v = am_fm x y → decode cJ9_floorMod_7cf53 pc = .ok (.ireturn, 1) → W p l e (headSpec afm_ws afm_rm).room s m (([Value.int x, .int y].map (am_cv Γ)).toArray) below meth c s.heap [] 0 0 (MQ below (am_Qc Γ (fun r w' => r = [.int (am_fm x y)] ∧ w' = w)) (([Value.int x, .int y].map (am_cv Γ)).toArray) s 0 0 (am_A Γ)) (F0 m pc lc [.int v]) := by
    intro v pc lc hvv hd
    subst hvv
    exact W.iret hx hb hrt (fun t ht hW => ⟨⟨[.int (am_fm x y)], w, rfl, by simp, ⟨rfl, rfl⟩, by rw [ht]; exact hr⟩, by rw [ht]; exact Nat.le_refl _, fun q _ _ => by rw [ht]⟩) (fun q hq => by cases hq) hd hlk
  have hl := lv_entry ([Value.int x, .int y]) (n := 3) (Nat.le_of_ble_eq_true rfl)
  show W p l e _ s m _ below meth c s.heap [] 0 0 _ (entryFrame m ([Value.int x, .int y]).toArray 3)
  rw [lg_entry_eq]
  generalize (lg_sl [Value.int x, .int y] ++ List.replicate (3 - (lg_sl [Value.int x, .int y]).length) Slot.unset).toArray = ls at hl ⊢
  have hl : lv_has ls 3 [(0, .int x), (1, .int y)] := hl
  refine lv_iload_n hx hb afm_d0 rfl (lv_at hl 0 rfl) ?_
  refine lv_iload_n hx hb afm_d1 rfl (lv_at hl 1 rfl) ?_
  refine lv_irem hx hb afm_d2 hy ?_
  refine lv_istore_n hx hb afm_d3 rfl hl (by decide) rfl (fun ls1 hl1 => ?_)
  have hl1 : lv_has ls1 3 [(2, .int (x - x / y * y)), (0, .int x), (1, .int y)] := hl1
  refine lv_iload_n hx hb afm_d4 rfl (lv_at hl1 1 rfl) ?_
  refine lv_iload_n hx hb afm_d5 rfl (lv_at hl1 2 rfl) ?_
  refine lv_ixor hx hb afm_d6 ?_
  have tail : ¬ ((x ^^^ y) < 0 ∧ ¬ (x - x / y * y) = 0) → W p l e (headSpec afm_ws afm_rm).room s m (([Value.int x, .int y].map (am_cv Γ)).toArray) below meth c s.heap [] 0 0 (MQ below (am_Qc Γ (fun r w' => r = [.int (am_fm x y)] ∧ w' = w)) (([Value.int x, .int y].map (am_cv Γ)).toArray) s 0 0 (am_A Γ)) (F0 m 18 ls1 []) := by
    intro hn
    refine lv_iload_n hx hb afm_d18 rfl (lv_at hl1 0 rfl) ?_
    exact hend _ _ _ (by unfold am_fm; rw [if_neg hn]) afm_d19
  refine lv_if_ge hx hb afm_d7 (tgt := 18) (by decide) (fun h => tail (fun q => absurd q.1 (Int32.not_lt.mpr h))) (fun h => ?_)
  refine lv_iload_n hx hb afm_d10 rfl (lv_at hl1 0 rfl) ?_
  refine lv_if_eq hx hb afm_d11 (tgt := 18) (by decide) (fun h2 => tail (fun q => q.2 h2)) (fun h2 => ?_)
  refine lv_iload_n hx hb afm_d14 rfl (lv_at hl1 0 rfl) ?_
  refine lv_iload_n hx hb afm_d15 rfl (lv_at hl1 2 rfl) ?_
  refine lv_iadd hx hb afm_d16 ?_
  exact hend _ _ _ (by unfold am_fm; rw [if_pos ⟨Int32.not_le.mp h, h2⟩]) afm_d17
theorem afm_w : ∀ w ∈ ([.code yJ9_floorMod_7cf53 cJ9_floorMod_7cf53 3 (some .int), .static yJ9_floorMod_7cf53, .initialized yJ9_floorMod_7cf53.cls, .arrayClass .int] : List Cond), w ∈ lw_g := lw_g_of2 (ps := [(4, 179), (4, 178), (1, 17), (1, 50)]) (by decide +kernel) (by decide +kernel)
theorem afm_dsc : (parseMethodDescriptor yJ9_floorMod_7cf53.desc).map (fun d => d.parameters.length) = some 2 := by decide +kernel
theorem am_c_drem {Γ : am_G} {l : Launch} {mid d : Nat} {Q : am_Q} {p : Program} {e : Env} {R : Room} {s : State} {m : MethodId} {args : Array Value} {below : List Frame} {meth : Method} {c : Code} {Z : State → Prop} {K : am_K} {Cl : am_C} {n h : Nat} {ls st : List Value} {w : am_W} (hc : am_cx Γ l mid d Q p e R s m args below meth c Z) (hk : am_ck mid n h (.drem)) (hK : ∀ n ls st w, K n ls st w → am_At Γ l mid p e R s m args below meth c Z n ls st w) (hs : am_stp Cl (am_bd mid) Q K (.drem) n ls st w) : am_At Γ l mid p e R s m args below meth c Z n ls st w := by
  obtain ⟨hx, hb, hml, hown, hts, henv, hini, hfr, hlo, hbc, hbs, hsz, hret⟩ := hc
  intro H locs lc hr hcn hS hl hln
  simp only [am_ck, am_ck1, Bool.and_eq_true] at hk
  obtain ⟨⟨hd, hn⟩, hm⟩ := hk
  have hd := am_dq_ok hd
  have hn := am_beq hn
  have hlk : (Cond.methodLink (am_Rn (am_mt mid).2.2.2.2.1) h yJ9_floorMod_7cf53).before args s = true := hts _ (am_LP_in _ (List.mem_map_of_mem (am_m3_ok hm)))
  unfold am_stp at hs
  dsimp only at hs
  obtain ⟨y, r0, e0, hs0⟩ := am_pi_ex hs
  subst e0
  obtain ⟨x, r1, e1, hs1⟩ := am_pi_ex hs0
  subst e1
  obtain ⟨hy, hs2⟩ := hs1
  by_cases h8 : Nat.ble (am_cat r1) 8 = true
  · rw [h8, cond_true] at hs2
    have h8 := Nat.le_of_ble_eq_true h8
    have hG : GoodIn lw_g afm_ws := fun w hw => by
      have hm : w ∈ lw_g := afm_w w (by rw [List.mem_singleton.mp hw]; exact List.mem_cons_self)
      exact ⟨hm, good_of_word (List.mem_filter.mp hm).2⟩
    have hcb : CallB R s args (am_Rn (am_mt mid).2.2.2.2.1) h yJ9_floorMod_7cf53 cJ9_floorMod_7cf53 3 (some .int) afm_ws afm_rm 0 0 2 := callB_of _ hts hG rfl rfl rfl (hts _ (afm_w _ (by simp))) hlk ⟨by decide, by decide, afm_dsc⟩ ⟨by show 0 + 1 ≤ _; omega, by show 8 + (3 + 11) + 0 ≤ _; omega⟩
    refine am_call (mc := 0) (ms := 0) (rest := r1.map (am_cv Γ)) (va_runS ⟨hx, hb, hml, hown, hts⟩ (afm_met (l := l) (Γ := Γ) (w := w) (x := x) hy) ⟨hcb, hts _ (afm_w _ (by simp))⟩ (As := [.int x, .int y]) ⟨am_blind Γ _ _, am_pre (as := [.int x, .int y]) henv hS hr⟩ rfl rfl (by rw [hl.1, hln]) rfl (by show 2 * 0 + _ ≤ 8; rw [am_cat_sum (am_env_cat henv)]; exact am_h8 h8) hd ⟨Nat.le_trans hcn.1 hbc, Nat.le_trans hcn.2 hbs⟩) hS (fun v w' H1 locs1 hq hrep hS1 => ?_)
    obtain ⟨rfl, rfl⟩ := hq
    have hqq := hK _ _ _ _ hs2 H1 locs1 lc hrep hcn hS1 hl hln
    rw [hn] at hqq
    exact hqq
  · rw [Bool.eq_false_iff.mpr h8, cond_false] at hs2
    exact hs2.elim
theorem am_c_anewarray {Γ : am_G} {l : Launch} {mid d : Nat} {Q : am_Q} {p : Program} {e : Env} {R : Room} {s : State} {m : MethodId} {args : Array Value} {below : List Frame} {meth : Method} {c : Code} {Z : State → Prop} {K : am_K} {Cl : am_C} {n h : Nat} {ls st : List Value} {w : am_W} {kc : Nat} (hc : am_cx Γ l mid d Q p e R s m args below meth c Z) (hk : am_ck mid n h (.anewarray kc)) (hK : ∀ n ls st w, K n ls st w → am_At Γ l mid p e R s m args below meth c Z n ls st w) (hs : am_stp Cl (am_bd mid) Q K (.anewarray kc) n ls st w) : am_At Γ l mid p e R s m args below meth c Z n ls st w := by
  obtain ⟨hx, hb, hml, hown, hts, henv, hini, hfr, hlo, hbc, hbs, hsz, hret⟩ := hc
  intro H locs lc hr hcn hS hl hln
  simp only [am_ck, am_ck1, Bool.and_eq_true] at hk
  obtain ⟨⟨⟨hd, hn⟩, hm⟩, hty0⟩ := hk
  have hd := am_dq_ok hd
  have hn := am_beq hn
  have hcl := hts _ (am_LA_in _ (List.mem_map_of_mem (am_m3_ok hm)))
  unfold am_stp at hs
  dsimp only at hs
  obtain ⟨nn, r0, e0, hs0⟩ := am_pi_ex hs
  subst e0
  by_cases hbu : (Nat.blt w.2.2.2.2.1 204 && (Nat.blt w.2.2.2.2.2.1 (am_bd mid).1 && Nat.ble (w.2.2.2.2.2.2 + nn.toNatClampNeg) (am_bd mid).2)) = true
  · rw [hbu, cond_true] at hs0
    simp only [Bool.and_eq_true] at hbu
    obtain ⟨u1, u2, u3⟩ := hbu
    have u1 : w.2.2.2.2.1 < 204 := Nat.le_of_ble_eq_true u1
    have u2 : w.2.2.2.2.2.1 < (am_bd mid).1 := Nat.le_of_ble_eq_true u2
    have u3 := Nat.le_of_ble_eq_true u3
    have hsz4 := hr.2.2.2.2 u1
    obtain ⟨⟨g1, g2⟩, hsk⟩ := hs0
    simp only [Bool.or_eq_true] at hty0
    rcases hty0 with z | z <;> have z := am_beq z <;> subst z
    · refine W.anew hx hb hown (C := "TeaTrolley$Law") hcl henv.2.2.2.2.2.2.1 rfl hd rfl (Int32.not_lt.mpr g1) (by have := am_n20 g1 g2; omega) (by omega) (by omega) (fun cA kA comp f1 f2 f3 f4 => ?_)
      have ec : cA = Γ.2.1 104 := Option.some.inj (f1.symm.trans (by obtain ⟨_, _, _, _, _, z⟩ := (henv.1.2 4 _ rfl).2; exact z))
      subst ec
      have es : (am_new w 104 nn.toNatClampNeg).1 w.2.2.2.2.1 = (104, nn.toNatClampNeg) := by show (if w.2.2.2.2.1 = w.2.2.2.2.1 then (104, nn.toNatClampNeg) else w.1 w.2.2.2.2.1) = _; rw [if_pos rfl]
      generalize hH1 : H.push ({ cls := Γ.2.1 104, slots := Array.replicate nn.toNatClampNeg .null, vm := .none } : Cell) = H1
      have z1 : H1.size = H.size + 1 := by rw [← hH1, Array.size_push]
      have e1 : H1[H.size]? = some (arrV (Γ.2.1 104) nn.toNatClampNeg (fun _ => .null)) := by rw [← hH1, Array.getElem?_push_size, ← arrV_new]
      have o1 : ∀ q : Nat, q < H.size → H1[q]? = H[q]? := fun q hq => by rw [← hH1, Array.getElem?_push, if_neg (Nat.ne_of_lt hq)]
      have hcell : va_at Γ.1 am_cls (Γ.2.2.1 + w.2.2.2.2.1, am_cell Γ (am_new w 104 nn.toNatClampNeg) w.2.2.2.2.1) H1 := by
        unfold am_cell
        rw [es, if_neg (show ¬ 104 < 90 by decide)]
        show H1[Γ.2.2.1 + w.2.2.2.2.1]? = some (vp_cell (Γ.2.1 104) (nn.toNatClampNeg, am_ar Γ (am_new w 104 nn.toNatClampNeg) w.2.2.2.2.1))
        have ea : am_ar Γ (am_new w 104 nn.toNatClampNeg) w.2.2.2.2.1 = .inr (.inr (.inr (.inr (fun _ => none)))) := by
          unfold am_ar
          rw [es]
          refine congrArg (fun f => Sum.inr (Sum.inr (Sum.inr (Sum.inr f)))) (funext fun j => ?_)
          show am_rq Γ (if w.2.2.2.2.1 = w.2.2.2.2.1 then 0 else w.2.2.2.1 w.2.2.2.2.1 j) = none
          rw [if_pos rfl]
          rfl
        rw [ea, vp_cell_q, ← hsz4]
        exact e1
      have hqq := hK _ _ _ _ hsk H1 locs lc (am_new_rep hr u1 (Or.inr ⟨by decide, by decide⟩) hcell (by omega) (fun x hx2 => o1 x (by omega))) ⟨by show w.2.2.2.2.2.1 + 1 ≤ _; omega, u3⟩ ⟨by have := hS.1; omega, fun x g1 g2 => (o1 x (by have := hS.1; omega)).trans (hS.2.1 x g1 g2), hS.2.2⟩ hl hln
      rw [hn] at hqq
      have hqq : W p l e R s m args below meth c H1 locs (w.2.2.2.2.2.1 + 1) (w.2.2.2.2.2.2 + nn.toNatClampNeg) Z (F0 m ((am_ct mid).1.getD n 0 + 3) lc (am_cv Γ (.ref w.2.2.2.2.1) :: r0.map (am_cv Γ))) := hqq
      rw [am_cv_own hr.1.2.1.1 (by omega), ← hsz4] at hqq
      exact hqq
    · refine W.anew hx hb hown (C := "TeaTrolley$State") hcl henv.2.2.2.2.2.2.2.1 rfl hd rfl (Int32.not_lt.mpr g1) (by have := am_n20 g1 g2; omega) (by omega) (by omega) (fun cA kA comp f1 f2 f3 f4 => ?_)
      have ec : cA = Γ.2.1 105 := Option.some.inj (f1.symm.trans (by obtain ⟨_, _, _, _, _, z⟩ := (henv.1.2 5 _ rfl).2; exact z))
      subst ec
      have es : (am_new w 105 nn.toNatClampNeg).1 w.2.2.2.2.1 = (105, nn.toNatClampNeg) := by show (if w.2.2.2.2.1 = w.2.2.2.2.1 then (105, nn.toNatClampNeg) else w.1 w.2.2.2.2.1) = _; rw [if_pos rfl]
      generalize hH1 : H.push ({ cls := Γ.2.1 105, slots := Array.replicate nn.toNatClampNeg .null, vm := .none } : Cell) = H1
      have z1 : H1.size = H.size + 1 := by rw [← hH1, Array.size_push]
      have e1 : H1[H.size]? = some (arrV (Γ.2.1 105) nn.toNatClampNeg (fun _ => .null)) := by rw [← hH1, Array.getElem?_push_size, ← arrV_new]
      have o1 : ∀ q : Nat, q < H.size → H1[q]? = H[q]? := fun q hq => by rw [← hH1, Array.getElem?_push, if_neg (Nat.ne_of_lt hq)]
      have hcell : va_at Γ.1 am_cls (Γ.2.2.1 + w.2.2.2.2.1, am_cell Γ (am_new w 105 nn.toNatClampNeg) w.2.2.2.2.1) H1 := by
        unfold am_cell
        rw [es, if_neg (show ¬ 105 < 90 by decide)]
        show H1[Γ.2.2.1 + w.2.2.2.2.1]? = some (vp_cell (Γ.2.1 105) (nn.toNatClampNeg, am_ar Γ (am_new w 105 nn.toNatClampNeg) w.2.2.2.2.1))
        have ea : am_ar Γ (am_new w 105 nn.toNatClampNeg) w.2.2.2.2.1 = .inr (.inr (.inr (.inr (fun _ => none)))) := by
          unfold am_ar
          rw [es]
          refine congrArg (fun f => Sum.inr (Sum.inr (Sum.inr (Sum.inr f)))) (funext fun j => ?_)
          show am_rq Γ (if w.2.2.2.2.1 = w.2.2.2.2.1 then 0 else w.2.2.2.1 w.2.2.2.2.1 j) = none
          rw [if_pos rfl]
          rfl
        rw [ea, vp_cell_q, ← hsz4]
        exact e1
      have hqq := hK _ _ _ _ hsk H1 locs lc (am_new_rep hr u1 (Or.inr ⟨by decide, by decide⟩) hcell (by omega) (fun x hx2 => o1 x (by omega))) ⟨by show w.2.2.2.2.2.1 + 1 ≤ _; omega, u3⟩ ⟨by have := hS.1; omega, fun x g1 g2 => (o1 x (by have := hS.1; omega)).trans (hS.2.1 x g1 g2), hS.2.2⟩ hl hln
      rw [hn] at hqq
      have hqq : W p l e R s m args below meth c H1 locs (w.2.2.2.2.2.1 + 1) (w.2.2.2.2.2.2 + nn.toNatClampNeg) Z (F0 m ((am_ct mid).1.getD n 0 + 3) lc (am_cv Γ (.ref w.2.2.2.2.1) :: r0.map (am_cv Γ))) := hqq
      rw [am_cv_own hr.1.2.1.1 (by omega), ← hsz4] at hqq
      exact hqq
  · rw [Bool.eq_false_iff.mpr hbu, cond_false] at hs0
    exact hs0.elim
