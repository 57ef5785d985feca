/-! New cells -/
theorem am_new_cell {Γ : am_G} {w : am_W} {kd n b : Nat} (hb : b ≠ w.2.2.2.2.1) : am_cell Γ (am_new w kd n) b = am_cell Γ w b := by
  have e3 : ∀ kk k, am_fv (am_new w kd n) kk b k = am_fv w kk b k := by
    intro kk k
    unfold am_fv am_new
    simp only [if_neg hb]
  unfold am_cell am_fs am_ar
  simp only [e3]
  unfold am_new
  simp only [if_neg hb]
theorem am_new_wl {Γ : am_G} {w : am_W} {kd n : Nat} (h1 : 1 ≤ w.2.2.2.2.1) : am_wl Γ (am_new w kd n) = am_wl Γ w ++ [(Γ.2.2.1 + w.2.2.2.2.1, am_cell Γ (am_new w kd n) w.2.2.2.2.1)] := by
  unfold am_wl
  have e1 : (am_new w kd n).2.2.2.2.1 - 1 = (w.2.2.2.2.1 - 1) + 1 := by show w.2.2.2.2.1 + 1 - 1 = _; omega
  rw [e1, List.range_succ, List.map_append]
  congr 1
  · apply List.map_congr_left
    intro j hj
    have := List.mem_range.mp hj
    rw [am_new_cell (by omega)]
  · simp only [List.map_cons, List.map_nil, show w.2.2.2.2.1 - 1 + 1 = w.2.2.2.2.1 by omega]
theorem am_new_rep {Γ : am_G} {w : am_W} {kd n : Nat} {H H1 : Heap} (hr : am_rep Γ w H) (hN : w.2.2.2.2.1 < 204) (hkd : (1 ≤ kd ∧ kd ≤ 13 ∧ n = am_nf (kd - 1)) ∨ (100 ≤ kd ∧ kd ≤ 106)) (hcell : va_at Γ.1 am_cls (Γ.2.2.1 + w.2.2.2.2.1, am_cell Γ (am_new w kd n) w.2.2.2.2.1) H1) (hz : H1.size = H.size + 1) (ho : ∀ q : Nat, q < H.size → H1[q]? = H[q]?) : am_rep Γ (am_new w kd n) H1 := by
  have h1 := hr.1.2.1.1
  have hsz := hr.2.2.2.2 hN
  have hwl := am_new_wl (Γ := Γ) (kd := kd) (n := n) h1
  refine ⟨⟨?_, ?_, ?_, ?_⟩, ?_, ?_, ?_, ?_⟩
  · intro a ha
    have hne : a ≠ w.2.2.2.2.1 := by
      rcases ha with q | ⟨q, -⟩
      · omega
      · have q : w.2.2.2.2.1 + 1 ≤ a := q
        omega
    show (if a = w.2.2.2.2.1 then (kd, n) else w.1 a).1 = 0
    rw [if_neg hne]
    refine hr.1.1 a ?_
    rcases ha with q | ⟨q, q2⟩
    · exact Or.inl q
    · have q : w.2.2.2.2.1 + 1 ≤ a := q
      exact Or.inr ⟨by omega, q2⟩
  · show 1 ≤ w.2.2.2.2.1 + 1 ∧ w.2.2.2.2.1 + 1 ≤ 204
    omega
  · intro a g1 g2
    have g2 : a < w.2.2.2.2.1 + 1 := g2
    by_cases e : a = w.2.2.2.2.1
    · have es : (am_new w kd n).1 a = (kd, n) := by show (if a = w.2.2.2.2.1 then (kd, n) else w.1 a) = _; rw [if_pos e]
      rw [es]
      rcases hkd with g | ⟨g3, g4⟩
      · exact Or.inl g
      · refine Or.inr ⟨g3, g4, fun _ j => ?_⟩
        show (if a = w.2.2.2.2.1 then 0 else w.2.2.2.1 a j) < 5000
        rw [if_pos e]
        decide
    · have es : (am_new w kd n).1 a = w.1 a := by show (if a = w.2.2.2.2.1 then (kd, n) else w.1 a) = _; rw [if_neg e]
      rw [es]
      rcases hr.1.2.2.1 a g1 (by omega) with g | ⟨g3, g4, g5⟩
      · exact Or.inl g
      · refine Or.inr ⟨g3, g4, fun g6 j => ?_⟩
        show (if a = w.2.2.2.2.1 then 0 else w.2.2.2.1 a j) < 5000
        rw [if_neg e]
        exact g5 g6 j
  · intro a ha
    have hne : a ≠ w.2.2.2.2.1 := by omega
    obtain ⟨g1, g2, g3⟩ := hr.1.2.2.2 a ha
    refine ⟨?_, fun j => ?_, fun k => ?_⟩
    · show (if a = w.2.2.2.2.1 then (kd, n) else w.1 a) = _
      rw [if_neg hne]; exact g1
    · show (if a = w.2.2.2.2.1 then 0 else w.2.1 a j) = _
      rw [if_neg hne]; exact g2 j
    · show (if a = w.2.2.2.2.1 then 0 else w.2.2.2.1 a k) = _
      rw [if_neg hne]; exact g3 k
  · rw [hwl]
    refine (hr.2.1.kept (fun k q hq => ho q.1 (hr.2.1 k q hq).lt)).app (fun k q hq => ?_)
    have hz : k < 1 := (List.getElem?_eq_some_iff.mp hq).1
    rw [show k = 0 by omega] at hq
    cases hq
    exact hcell
  · rw [hwl]
    exact hr.2.2.1.push hr.2.1 hsz.symm (by show Γ.2.2.1 + 1 ≤ _; omega)
  · show Γ.2.2.1 + (w.2.2.2.2.1 + 1) ≤ H1.size
    omega
  · intro _
    show H1.size = Γ.2.2.1 + (w.2.2.2.2.1 + 1)
    omega
theorem am_new_fv (w : am_W) (kd n kk k : Nat) (Γ : am_G) {ty : FieldType} (hk : kk = am_kd ty) (h2 : ty = .int ∨ ty = .long ∨ ty = .boolean ∨ (∃ C, ty = .object C) ∨ ∃ t, ty = .array t) : am_cv Γ (am_fv (am_new w kd n) kk w.2.2.2.2.1 k) = defaultValue ty := by
  subst hk
  rcases h2 with rfl | rfl | rfl | ⟨C, rfl⟩ | ⟨t, rfl⟩ <;> unfold am_kd am_fv am_new <;> simp only [if_pos] <;> rfl
theorem am_tysA : ∀ ci, ci < 13 → ∀ k, k < am_nf ci → am_ty ci k = .int ∨ am_ty ci k = .long ∨ am_ty ci k = .boolean ∨ am_kd (am_ty ci k) = 2 := by decide +kernel

theorem am_c_new {Γ : am_G} {l : Launch} {mid d : Nat} {Q : am_Q} {p : Program} {e : Env} {R : Room} {s : State} {m : MethodId} {args : Array Value} {below : List Frame} {meth : Method} {c : Code} {Z : State → Prop} {K : am_K} {Cl : am_C} {n h : Nat} {ls st : List Value} {w : am_W} {q : Nat} (hc : am_cx Γ l mid d Q p e R s m args below meth c Z) (hk : am_ck mid n h (.new q)) (hK : ∀ n ls st w, K n ls st w → am_At Γ l mid p e R s m args below meth c Z n ls st w) (hs : am_stp Cl (am_bd mid) Q K (.new q) n ls st w) : am_At Γ l mid p e R s m args below meth c Z n ls st w := by
  obtain ⟨hx, hb, hml, hown, hts, henv, hini, hfr, hlo, hbc, hbs, hsz, hret⟩ := hc
  intro H locs lc hr hcn hS hl hln
  simp only [am_ck, am_ck1, Bool.and_eq_true] at hk
  obtain ⟨⟨⟨⟨⟨hd, hn⟩, hm⟩, hsz1⟩, hp1⟩, hp2⟩ := hk
  have hd := am_dq_ok hd
  have hn := am_beq hn
  have hm := am_m3_ok hm
  have hsz1 := am_beq hsz1
  have hp1 : 0 < q / 64 := Nat.le_of_ble_eq_true hp1
  have hp2 := Nat.le_of_ble_eq_true hp2
  have hlk := hts _ (am_LN_in _ (List.mem_map_of_mem hm))
  obtain ⟨rc, hrc, hF, hN⟩ := am_cls_get (ci := q / 64 - 1) (by omega)
  have hgd : am_cls.getD (q / 64 - 1) ("", fun _ => ("", "", "", false), 0) = rc := by rw [List.getD_eq_getElem?_getD, hrc]; rfl
  unfold am_lnw at hlk
  simp only at hlk
  rw [hgd] at hlk
  unfold am_stp at hs
  dsimp only at hs
  by_cases hbu : (Nat.blt w.2.2.2.2.1 204 && (Nat.blt w.2.2.2.2.2.1 (am_bd mid).1 && Nat.ble (w.2.2.2.2.2.2 + q % 64) (am_bd mid).2)) = true
  · rw [hbu, cond_true] at hs
    simp only [Bool.and_eq_true] at hbu
    obtain ⟨u1, u2, u3⟩ := hbu
    have u1 : w.2.2.2.2.1 < 204 := Nat.le_of_ble_eq_true u1
    have u2 : w.2.2.2.2.2.1 < (am_bd mid).1 := Nat.le_of_ble_eq_true u2
    have u3 := Nat.le_of_ble_eq_true u3
    have hsz4 := hr.2.2.2.2 u1
    have hmem := List.mem_of_getElem? hrc
    have hins := hts _ (am_ins_in _ (List.mem_map_of_mem hmem))
    have hini2 := hts _ (am_ini_in _ (List.mem_map_of_mem hmem))
    have hKn := henv.1.1 (q / 64 - 1) _ hrc
    refine W.newcK hx hb hown hlk hins hini2 rfl hd (by omega) (by rw [← hN]; rw [hsz1] at u3; omega) hKn.2.1 hsz4 (fun H1 kC hkC e1 hz ho => ?_)
    have hcell : va_at Γ.1 am_cls (Γ.2.2.1 + w.2.2.2.2.1, am_cell Γ (am_new w (q / 64) (q % 64)) w.2.2.2.2.1) H1 := by
      have es : (am_new w (q / 64) (q % 64)).1 w.2.2.2.2.1 = (q / 64, q % 64) := by show (if w.2.2.2.2.1 = w.2.2.2.2.1 then (q / 64, q % 64) else w.1 w.2.2.2.2.1) = _; rw [if_pos rfl]
      unfold am_cell
      rw [es, if_pos (show q / 64 < 90 by omega)]
      refine ⟨rc, hrc, (u_born (am_ty (q / 64 - 1)) hts (am_cls_w hrc) hKn hkC e1 (am_cls_t hrc).1).to (fun j hj => ?_)⟩
      have hj2 : j < am_nf (q / 64 - 1) := by rw [hN]; exact hj
      have hv := am_fs_get (Γ := Γ) (w := am_new w (q / 64) (q % 64)) (ci := q / 64 - 1) (a := w.2.2.2.2.1) (n := q % 64) (k := j) (by rw [hsz1]; exact hj2)
      have hty : am_ty (q / 64 - 1) j = .int ∨ am_ty (q / 64 - 1) j = .long ∨ am_ty (q / 64 - 1) j = .boolean ∨ (∃ C, am_ty (q / 64 - 1) j = .object C) ∨ ∃ t, am_ty (q / 64 - 1) j = .array t := by
        rcases am_tysA (q / 64 - 1) (by omega) j hj2 with g | g | g | g
        · exact Or.inl g
        · exact Or.inr (Or.inl g)
        · exact Or.inr (Or.inr (Or.inl g))
        · exact Or.inr (Or.inr (Or.inr (am_tys2 g)))
      rw [am_new_fv w (q / 64) (q % 64) _ j Γ rfl hty] at hv
      unfold vp_V
      rw [List.getD_eq_getElem?_getD, hv]
      rfl
    have hqq := hK _ _ _ _ hs H1 locs lc (am_new_rep hr u1 (Or.inl ⟨by omega, by omega, hsz1⟩) hcell (by omega) (fun x hx2 => ho x (by omega))) ⟨by show w.2.2.2.2.2.1 + 1 ≤ _; omega, u3⟩ ⟨by have := hS.1; omega, fun x g1 g2 => (ho x (by have := hS.1; omega)).trans (hS.2.1 x g1 g2), hS.2.2⟩ hl hln
    rw [hn] at hqq
    have hqq : W p l e R s m args below meth c H1 locs (w.2.2.2.2.2.1 + 1) (w.2.2.2.2.2.2 + q % 64) Z (F0 m ((am_ct mid).1.getD n 0 + 3) lc (am_cv Γ (.ref w.2.2.2.2.1) :: st.map (am_cv Γ))) := hqq
    rw [am_cv_own hr.1.2.1.1 (by omega), hsz1, hN] at hqq
    exact hqq
  · rw [Bool.eq_false_iff.mpr hbu, cond_false] at hs
    exact hs.elim

theorem am_ac_int : Cond.arrayClass (newarray.typeOf .int) ∈ lw_g := lw_g_of2 (L := [Cond.arrayClass (newarray.typeOf .int)]) (ps := [(1, 50)]) (by decide +kernel) (by decide +kernel) _ List.mem_cons_self
theorem am_ac_long : Cond.arrayClass (newarray.typeOf .long) ∈ lw_g := lw_g_of2 (L := [Cond.arrayClass (newarray.typeOf .long)]) (ps := [(7, 31)]) (by decide +kernel) (by decide +kernel) _ List.mem_cons_self
theorem am_ac_byte : Cond.arrayClass (newarray.typeOf .byte) ∈ lw_g := lw_g_of2 (L := [Cond.arrayClass (newarray.typeOf .byte)]) (ps := [(2, 16)]) (by decide +kernel) (by decide +kernel) _ List.mem_cons_self
theorem am_ac_boolean : Cond.arrayClass (newarray.typeOf .boolean) ∈ lw_g := lw_g_of2 (L := [Cond.arrayClass (newarray.typeOf .boolean)]) (ps := [(7, 32)]) (by decide +kernel) (by decide +kernel) _ List.mem_cons_self

theorem am_n20 {n : Int32} (h1 : 0 ≤ n) (h2 : n ≤ 20000) : n.toNatClampNeg ≤ 20000 := by
  have a1 := Int32.le_iff_toInt_le.mp h1
  have a2 := Int32.le_iff_toInt_le.mp h2
  have e2 : (20000 : Int32).toInt = 20000 := by decide
  rw [e2] at a2
  show n.toInt.toNat ≤ 20000
  omega

theorem am_c_newarray {Γ : am_G} {l : Launch} {mid d : Nat} {Q : am_Q} {p : Program} {e : Env} {R : Room} {s : State} {m : MethodId} {args : Array Value} {below : List Frame} {meth : Method} {c : Code} {Z : State → Prop} {K : am_K} {Cl : am_C} {n h : Nat} {ls st : List Value} {w : am_W} {t : ArrayType} (hc : am_cx Γ l mid d Q p e R s m args below meth c Z) (hk : am_ck mid n h (.newarray t)) (hK : ∀ n ls st w, K n ls st w → am_At Γ l mid p e R s m args below meth c Z n ls st w) (hs : am_stp Cl (am_bd mid) Q K (.newarray t) n ls st w) : am_At Γ l mid p e R s m args below meth c Z n ls st w := by
  obtain ⟨hx, hb, hml, hown, hts, henv, hini, hfr, hlo, hbc, hbs, hsz, hret⟩ := hc
  intro H locs lc hr hcn hS hl hln
  simp only [am_ck, am_ck1, Bool.and_eq_true] at hk
  obtain ⟨⟨hd, hn⟩, hty0⟩ := hk
  have hd := am_dq_ok hd
  have hn := am_beq hn
  unfold am_stp at hs
  dsimp only at hs
  obtain ⟨nn, r0, e0, hs0⟩ := am_pi_ex hs
  subst e0
  by_cases hbu : (Nat.blt w.2.2.2.2.1 204 && (Nat.blt w.2.2.2.2.2.1 (am_bd mid).1 && Nat.ble (w.2.2.2.2.2.2 + nn.toNatClampNeg) (am_bd mid).2)) = true
  · rw [hbu, cond_true] at hs0
    simp only [Bool.and_eq_true] at hbu
    obtain ⟨u1, u2, u3⟩ := hbu
    have u1 : w.2.2.2.2.1 < 204 := Nat.le_of_ble_eq_true u1
    have u2 : w.2.2.2.2.2.1 < (am_bd mid).1 := Nat.le_of_ble_eq_true u2
    have u3 := Nat.le_of_ble_eq_true u3
    have hsz4 := hr.2.2.2.2 u1
    obtain ⟨⟨g1, g2⟩, hsk⟩ := hs0
    simp only [Bool.or_eq_true] at hty0
    rcases hty0 with ((z | z) | z) | z <;> have z := of_decide_eq_true z <;> subst z
    · refine va_newaK hx hb (atype := .int) (hts _ am_ac_int) rfl hd rfl (by exact Int32.not_lt.mpr g1) rfl (by show nn.toNatClampNeg * _ ≤ _; have := am_n20 g1 g2; simp only [newarray.typeOf, componentBytes]; omega) (by omega) (by omega) hsz4 (fun H1 cA e1 hz ho hAr hNm => ?_)
      have ec : cA = Γ.2.1 100 := Option.some.inj (hNm.symm.trans (henv.1.2 0 _ rfl).2)
      subst ec
      have es : (am_new w 100 nn.toNatClampNeg).1 w.2.2.2.2.1 = (100, nn.toNatClampNeg) := by show (if w.2.2.2.2.1 = w.2.2.2.2.1 then (100, nn.toNatClampNeg) else w.1 w.2.2.2.2.1) = _; rw [if_pos rfl]
      have hcell : va_at Γ.1 am_cls (Γ.2.2.1 + w.2.2.2.2.1, am_cell Γ (am_new w 100 nn.toNatClampNeg) w.2.2.2.2.1) H1 := by
        unfold am_cell
        rw [es, if_neg (show ¬ 100 < 90 by decide)]
        show H1[Γ.2.2.1 + w.2.2.2.2.1]? = some (vp_cell (Γ.2.1 100) (nn.toNatClampNeg, am_ar Γ (am_new w 100 nn.toNatClampNeg) w.2.2.2.2.1))
        have ea : am_ar Γ (am_new w 100 nn.toNatClampNeg) w.2.2.2.2.1 = .inl (fun _ => 0) := by
          unfold am_ar
          rw [es]
          refine congrArg Sum.inl (funext fun j => ?_)
          show (if w.2.2.2.2.1 = w.2.2.2.2.1 then (0 : Int32) else w.2.1 w.2.2.2.2.1 j) = 0
          rw [if_pos rfl]
        rw [ea]
        exact e1
      have hqq := hK _ _ _ _ hsk H1 locs lc (am_new_rep hr u1 (Or.inr ⟨by decide, by decide⟩) hcell (by omega) (fun x hx2 => ho x (by omega))) ⟨by show w.2.2.2.2.2.1 + 1 ≤ _; omega, u3⟩ ⟨by have := hS.1; omega, fun x g1 g2 => (ho x (by have := hS.1; omega)).trans (hS.2.1 x g1 g2), hS.2.2⟩ hl hln
      rw [hn] at hqq
      have hqq : W p l e R s m args below meth c H1 locs (w.2.2.2.2.2.1 + 1) (w.2.2.2.2.2.2 + nn.toNatClampNeg) Z (F0 m ((am_ct mid).1.getD n 0 + 2) lc (am_cv Γ (.ref w.2.2.2.2.1) :: r0.map (am_cv Γ))) := hqq
      rw [am_cv_own hr.1.2.1.1 (by omega)] at hqq
      exact hqq
    · refine va_newaK hx hb (atype := .long) (hts _ am_ac_long) rfl hd rfl (by exact Int32.not_lt.mpr g1) rfl (by show nn.toNatClampNeg * _ ≤ _; have := am_n20 g1 g2; simp only [newarray.typeOf, componentBytes]; omega) (by omega) (by omega) hsz4 (fun H1 cA e1 hz ho hAr hNm => ?_)
      have ec : cA = Γ.2.1 101 := Option.some.inj (hNm.symm.trans (henv.1.2 1 _ rfl).2)
      subst ec
      have es : (am_new w 101 nn.toNatClampNeg).1 w.2.2.2.2.1 = (101, nn.toNatClampNeg) := by show (if w.2.2.2.2.1 = w.2.2.2.2.1 then (101, nn.toNatClampNeg) else w.1 w.2.2.2.2.1) = _; rw [if_pos rfl]
      have hcell : va_at Γ.1 am_cls (Γ.2.2.1 + w.2.2.2.2.1, am_cell Γ (am_new w 101 nn.toNatClampNeg) w.2.2.2.2.1) H1 := by
        unfold am_cell
        rw [es, if_neg (show ¬ 101 < 90 by decide)]
        show H1[Γ.2.2.1 + w.2.2.2.2.1]? = some (vp_cell (Γ.2.1 101) (nn.toNatClampNeg, am_ar Γ (am_new w 101 nn.toNatClampNeg) w.2.2.2.2.1))
        have ea : am_ar Γ (am_new w 101 nn.toNatClampNeg) w.2.2.2.2.1 = .inr (.inl (fun _ => 0)) := by
          unfold am_ar
          rw [es]
          refine congrArg (fun f => Sum.inr (Sum.inl f)) (funext fun j => ?_)
          show (if w.2.2.2.2.1 = w.2.2.2.2.1 then (0 : Int64) else w.2.2.1 w.2.2.2.2.1 j) = 0
          rw [if_pos rfl]
        rw [ea]
        exact e1
      have hqq := hK _ _ _ _ hsk H1 locs lc (am_new_rep hr u1 (Or.inr ⟨by decide, by decide⟩) hcell (by omega) (fun x hx2 => ho x (by omega))) ⟨by show w.2.2.2.2.2.1 + 1 ≤ _; omega, u3⟩ ⟨by have := hS.1; omega, fun x g1 g2 => (ho x (by have := hS.1; omega)).trans (hS.2.1 x g1 g2), hS.2.2⟩ hl hln
      rw [hn] at hqq
      have hqq : W p l e R s m args below meth c H1 locs (w.2.2.2.2.2.1 + 1) (w.2.2.2.2.2.2 + nn.toNatClampNeg) Z (F0 m ((am_ct mid).1.getD n 0 + 2) lc (am_cv Γ (.ref w.2.2.2.2.1) :: r0.map (am_cv Γ))) := hqq
      rw [am_cv_own hr.1.2.1.1 (by omega)] at hqq
      exact hqq
    · refine va_newaK hx hb (atype := .byte) (hts _ am_ac_byte) rfl hd rfl (by exact Int32.not_lt.mpr g1) rfl (by show nn.toNatClampNeg * _ ≤ _; have := am_n20 g1 g2; simp only [newarray.typeOf, componentBytes]; omega) (by omega) (by omega) hsz4 (fun H1 cA e1 hz ho hAr hNm => ?_)
      have ec : cA = Γ.2.1 102 := Option.some.inj (hNm.symm.trans (henv.1.2 2 _ rfl).2)
      subst ec
      have es : (am_new w 102 nn.toNatClampNeg).1 w.2.2.2.2.1 = (102, nn.toNatClampNeg) := by show (if w.2.2.2.2.1 = w.2.2.2.2.1 then (102, nn.toNatClampNeg) else w.1 w.2.2.2.2.1) = _; rw [if_pos rfl]
      have hcell : va_at Γ.1 am_cls (Γ.2.2.1 + w.2.2.2.2.1, am_cell Γ (am_new w 102 nn.toNatClampNeg) w.2.2.2.2.1) H1 := by
        unfold am_cell
        rw [es, if_neg (show ¬ 102 < 90 by decide)]
        show H1[Γ.2.2.1 + w.2.2.2.2.1]? = some (vp_cell (Γ.2.1 102) (nn.toNatClampNeg, am_ar Γ (am_new w 102 nn.toNatClampNeg) w.2.2.2.2.1))
        have ea : am_ar Γ (am_new w 102 nn.toNatClampNeg) w.2.2.2.2.1 = .inl (fun _ => 0) := by
          unfold am_ar
          rw [es]
          refine congrArg Sum.inl (funext fun j => ?_)
          show (if w.2.2.2.2.1 = w.2.2.2.2.1 then (0 : Int32) else w.2.1 w.2.2.2.2.1 j) = 0
          rw [if_pos rfl]
        rw [ea]
        exact e1
      have hqq := hK _ _ _ _ hsk H1 locs lc (am_new_rep hr u1 (Or.inr ⟨by decide, by decide⟩) hcell (by omega) (fun x hx2 => ho x (by omega))) ⟨by show w.2.2.2.2.2.1 + 1 ≤ _; omega, u3⟩ ⟨by have := hS.1; omega, fun x g1 g2 => (ho x (by have := hS.1; omega)).trans (hS.2.1 x g1 g2), hS.2.2⟩ hl hln
      rw [hn] at hqq
      have hqq : W p l e R s m args below meth c H1 locs (w.2.2.2.2.2.1 + 1) (w.2.2.2.2.2.2 + nn.toNatClampNeg) Z (F0 m ((am_ct mid).1.getD n 0 + 2) lc (am_cv Γ (.ref w.2.2.2.2.1) :: r0.map (am_cv Γ))) := hqq
      rw [am_cv_own hr.1.2.1.1 (by omega)] at hqq
      exact hqq
    · refine va_newaK hx hb (atype := .boolean) (hts _ am_ac_boolean) rfl hd rfl (by exact Int32.not_lt.mpr g1) rfl (by show nn.toNatClampNeg * _ ≤ _; have := am_n20 g1 g2; simp only [newarray.typeOf, componentBytes]; omega) (by omega) (by omega) hsz4 (fun H1 cA e1 hz ho hAr hNm => ?_)
      have ec : cA = Γ.2.1 103 := Option.some.inj (hNm.symm.trans (henv.1.2 3 _ rfl).2)
      subst ec
      have es : (am_new w 103 nn.toNatClampNeg).1 w.2.2.2.2.1 = (103, nn.toNatClampNeg) := by show (if w.2.2.2.2.1 = w.2.2.2.2.1 then (103, nn.toNatClampNeg) else w.1 w.2.2.2.2.1) = _; rw [if_pos rfl]
      have hcell : va_at Γ.1 am_cls (Γ.2.2.1 + w.2.2.2.2.1, am_cell Γ (am_new w 103 nn.toNatClampNeg) w.2.2.2.2.1) H1 := by
        unfold am_cell
        rw [es, if_neg (show ¬ 103 < 90 by decide)]
        show H1[Γ.2.2.1 + w.2.2.2.2.1]? = some (vp_cell (Γ.2.1 103) (nn.toNatClampNeg, am_ar Γ (am_new w 103 nn.toNatClampNeg) w.2.2.2.2.1))
        have ea : am_ar Γ (am_new w 103 nn.toNatClampNeg) w.2.2.2.2.1 = .inl (fun _ => 0) := by
          unfold am_ar
          rw [es]
          refine congrArg Sum.inl (funext fun j => ?_)
          show (if w.2.2.2.2.1 = w.2.2.2.2.1 then (0 : Int32) else w.2.1 w.2.2.2.2.1 j) = 0
          rw [if_pos rfl]
        rw [ea]
        exact e1
      have hqq := hK _ _ _ _ hsk H1 locs lc (am_new_rep hr u1 (Or.inr ⟨by decide, by decide⟩) hcell (by omega) (fun x hx2 => ho x (by omega))) ⟨by show w.2.2.2.2.2.1 + 1 ≤ _; omega, u3⟩ ⟨by have := hS.1; omega, fun x g1 g2 => (ho x (by have := hS.1; omega)).trans (hS.2.1 x g1 g2), hS.2.2⟩ hl hln
      rw [hn] at hqq
      have hqq : W p l e R s m args below meth c H1 locs (w.2.2.2.2.2.1 + 1) (w.2.2.2.2.2.2 + nn.toNatClampNeg) Z (F0 m ((am_ct mid).1.getD n 0 + 2) lc (am_cv Γ (.ref w.2.2.2.2.1) :: r0.map (am_cv Γ))) := hqq
      rw [am_cv_own hr.1.2.1.1 (by omega)] at hqq
      exact hqq
  · rw [Bool.eq_false_iff.mpr hbu, cond_false] at hs0
    exact hs0.elim
