theorem am_nfw : nativeFrameWords "java/lang/System" "arraycopy" 5 = 7 := by decide +kernel
section AMC
variable {p : Program} {l : Launch} {e : Env} {R : Room} {s : State} {m : MethodId} {args : Array Value} {below : List Frame} {meth : Method} {c : Code} {H : Heap} {locs : List Loc} {cells slots : Nat} {Q : State → Prop}
variable {pc : Nat} {ls : Array Slot} {rest : List Value} {D : va_G} {cl : List vw_C} {A : Nat → Prop} {a : Nat} {tys : List (ClassId × FieldType)} {ws : va_W}
/-- arraycopy out of a static array -/
theorem am_copyT {cc : ByteArray} (hexec : p.tables.exec = Jvm.exec) (hb : c.code = cc) (hml : c.maxLocals = ls.size) {own : String} {index : Nat} (hown : s.vm.findClass own = some m.cls) (hlink : (Cond.methodLink own index arraycopyName).before args s = true) (hnat : (Cond.native arraycopyName).before args s = true) (hstat : (Cond.static arraycopyName).before args s = true) (hini : (Cond.initialized "java/lang/System").before args s = true)
    (hK : va_K D cl tys s) (hP : va_P D cl ws H) (hD : va_D A ws) (hS : va_S A s.heap H locs) {b0 n0 : Nat} {f : Nat → Int32} (hX : va_T .int b0 n0 (fun j => .int (f j)) A s s.heap) (q1 t1 : Nat) {c1 : ClassId} {n1 : Nat} {g : Nat → Int32} (ha1 : ws[q1]? = some (a, .inl (c1, n1, .inl g))) (ht1 : tys[t1]? = some (c1, .int))
    {sp dp n : Int32} (h1 : ¬ sp < 0) (h2 : ¬ dp < 0) (h3 : ¬ n < 0) (h4 : sp.toNatClampNeg + n.toNatClampNeg ≤ n0) (h5 : dp.toNatClampNeg + n.toNatClampNeg ≤ n1)
    (hframes : 1 ≤ R.frames) (hlocals : (rest.map fun v => v.category).sum + (nativeFrameWords "java/lang/System" "arraycopy" 5 + 11) ≤ R.locals) (hdg : decode cc pc = .ok (.invokestatic index, 3))
    (kk : ∀ (H1 : Heap) (locs1 : List Loc), va_P D cl (ws.set q1 (a, .inl (c1, n1, .inl (va_cpy f g sp.toNatClampNeg dp.toNatClampNeg n.toNatClampNeg)))) H1 → va_D A (ws.set q1 (a, .inl (c1, n1, .inl (va_cpy f g sp.toNatClampNeg dp.toNatClampNeg n.toNatClampNeg)))) → va_S A s.heap H1 locs1 → W p l e R s m args below meth c H1 locs1 cells slots Q (F0 m (pc + 3) ls rest)) : W p l e R s m args below meth c H locs cells slots Q (F0 m pc ls (.int n :: .int dp :: .ref a :: .int sp :: .ref b0 :: rest)) := by
  have nn : ∀ z : Int32, ¬ z < 0 → z.toInt = (z.toNatClampNeg : Int) := by
    intro z hz
    have hz0 : (0 : Int) ≤ z.toInt := by
      have := Int32.not_lt.mp hz
      simpa using Int32.le_iff_toInt_le.mp this
    show z.toInt = ((z.toInt.toNat : Nat) : Int)
    omega
  intro T hT X
  obtain ⟨scr, hs1, hs2, hs3, hs4, -, hs5, hbA⟩ := hX
  have hbl : b0 < s.heap.size := (Array.getElem?_eq_some_iff.mp hs1).1
  have hc0 : H[b0]? = some scr := by rw [hS.2.1 b0 hbl hbA]; exact hs1
  have hc1 : H[a]? = some (vp_cell c1 (n1, .inl g)) := hP q1 _ ha1
  obtain ⟨hs6, k0, hk0, cm0, hkk0⟩ := hs2
  obtain ⟨-, k1, hk1, cm1, hkk1⟩ := (hK.2 t1 _ ht1).1 n1 (fun j => .int (g j))
  obtain ⟨vm', X', step⟩ := X.arraycopy hexec hown hlink hnat hstat hini (src := b0) (dst := a) (cs := scr) (cd := vp_cell c1 (n1, .inl g)) (srcPos := sp) (destPos := dp) (n := n) (by rw [hT]; exact hc0) (by rw [hT]; exact hc1)
    hs6 (fun _ h => by cases h) hs3 (fun h => by cases h) hk0 hk1 hkk0 hkk1 (by simp [refKind]) h1 h2 h3
    (by rw [nn sp h1, nn n h3]; omega)
    (by rw [nn dp h2, nn n h3]; show ¬ _ > ((arrV c1 n1 (fun j => .int (g j))).slots.size : Int); rw [arrV_size]; omega)
    (fun vm₁ _ i hi => by
      have e : scr.slots.getD (sp.toNatClampNeg + i) .null = .int (f (sp.toNatClampNeg + i)) := by
        rw [Array.getD_eq_getD_getElem?, hs5 _ (by omega)]
        rfl
      refine ⟨?_, ?_⟩
      · rw [e]
        rfl
      · rw [e]
        exact trivial)
    (g := F0 m pc ls (.int n :: .int dp :: .ref a :: .int sp :: .ref b0 :: rest)) rfl (by rw [hml]) (rest := rest) rfl (by rw [hb]; exact hdg) hframes (by show 2 * 0 + _ + _ ≤ _; omega)
  have e1 : copied scr (vp_cell c1 (n1, .inl g)) sp dp n = vp_cell c1 (n1, .inl (va_cpy f g sp.toNatClampNeg dp.toNatClampNeg n.toNatClampNeg)) := va_copiedX (fun z => .int z) scr c1 f g hs5 h4
  rw [e1] at X' step
  have hl : a < H.size := (Array.getElem?_eq_some_iff.mp hc1).1
  have hheap : ((T.setVm vm').setCell a (vp_cell c1 (n1, .inl (va_cpy f g sp.toNatClampNeg dp.toNatClampNeg n.toNatClampNeg)))).heap = H.setIfInBounds a (vp_cell c1 (n1, .inl (va_cpy f g sp.toNatClampNeg dp.toNatClampNeg n.toNatClampNeg))) := by rw [← hT]; rfl
  have oq : ∀ q : Nat, q ≠ a → (H.setIfInBounds a (vp_cell c1 (n1, .inl (va_cpy f g sp.toNatClampNeg dp.toNatClampNeg n.toNatClampNeg))))[q]? = H[q]? := fun q hq => by simp [Array.getElem?_setIfInBounds, Ne.symm hq]
  obtain ⟨t, a1, b1⟩ := kk _ _ (hP.set hD ha1 (show (H.setIfInBounds a _)[a]? = some _ by simp [Array.getElem?_setIfInBounds, hl]) oq) (hD.set ha1) ⟨by simp; exact hS.1, fun q g1 g2 => by
      rw [oq q (fun e => g2 (by rw [e]; exact hD.2 q1 _ ha1))]
      exact hS.2.1 q g1 g2, fun q hq => by
      rcases List.mem_append.mp hq with h | h
      · exact hS.2.2 q h
      · obtain ⟨z, -, hz⟩ := List.mem_map.mp h
        rw [← hz]
        exact hD.2 q1 _ ha1⟩ _ hheap X'
  exact ⟨t, step t a1, b1⟩
end AMC

theorem am_c_frem {Γ : am_G} {l : Launch} {mid d : Nat} {Q : am_Q} {p : Program} {e : Env} {R : Room} {s : State} {m : MethodId} {args : Array Value} {below : List Frame} {meth : Method} {c : Code} {Z : State → Prop} {K : am_K} {Cl : am_C} {n h : Nat} {ls st : List Value} {w : am_W} (hc : am_cx Γ l mid d Q p e R s m args below meth c Z) (hk : am_ck mid n h (.frem)) (hK : ∀ n ls st w, K n ls st w → am_At Γ l mid p e R s m args below meth c Z n ls st w) (hs : am_stp Cl (am_bd mid) Q K (.frem) n ls st w) : am_At Γ l mid p e R s m args below meth c Z n ls st w := by
  obtain ⟨hx, hb, hml, hown, hts, henv, hini, hfr, hlo, hbc, hbs, hsz, hret⟩ := hc
  intro H locs lc hr hcn hS hl hln
  simp only [am_ck, am_ck1, Bool.and_eq_true] at hk
  obtain ⟨⟨hd, hn⟩, hm⟩ := hk
  have hd := am_dq_ok hd
  have hn := am_beq hn
  have hlk := hts _ (am_LP_in _ (List.mem_map_of_mem (am_m3_ok hm)))
  unfold am_stp at hs
  dsimp only at hs
  by_cases h204 : Nat.ble 204 w.2.2.2.2.1 = true
  · rw [h204, cond_true] at hs
    have h204 := Nat.le_of_ble_eq_true h204
    obtain ⟨nn, r0, e0, hs0⟩ := am_pi_ex hs
    subst e0
    obtain ⟨dp, r1, e1, hs1⟩ := am_pi_ex hs0
    subst e1
    obtain ⟨a, r2, e2, hs2⟩ := am_pr_ex hs1
    subst e2
    obtain ⟨sp, r3, e3, hs3⟩ := am_pi_ex hs2
    subst e3
    obtain ⟨a0, r4, e4, hs4⟩ := am_pr_ex hs3
    subst e4
    by_cases h8 : Nat.ble (am_cat r4) 8 = true
    · rw [h8, cond_true] at hs4
      have h8 := Nat.le_of_ble_eq_true h8
      obtain ⟨⟨hs0a, hsh⟩, ⟨c1, c2, c3, c4, c5⟩, hsk⟩ := hs4
      obtain ⟨o1, o2, o3, o5⟩ := am_arr hr henv hsh (by decide) (by decide)
      have e0 : am_ar Γ w a = .inl (w.2.1 a) := by unfold am_ar; rw [hsh]; rfl
      rw [e0] at o5
      obtain ⟨y1, y2, y3, y5⟩ := am_arr hr henv hs0a (by decide) (by decide)
      have e9 : am_ar Γ w a0 = .inl (w.2.1 a0) := by unfold am_ar; rw [hs0a]; rfl
      rw [e9] at y5
      show W p l e R s m args below meth c H locs w.2.2.2.2.2.1 w.2.2.2.2.2.2 Z (F0 m ((am_ct mid).1.getD n 0) lc (.int nn :: .int dp :: am_cv Γ (.ref a) :: .int sp :: am_cv Γ (.ref a0) :: r4.map (am_cv Γ)))
      rw [am_cv_own o1 o3, am_cv_own y1 y3]
      have e1 : am_cell Γ (am_sI w (am_cpI w.2.1 a0 a sp.toNatClampNeg dp.toNatClampNeg nn.toNatClampNeg)) a = .inl (Γ.2.1 100, (w.1 a).2, .inl (va_cpy (w.2.1 a0) (w.2.1 a) sp.toNatClampNeg dp.toNatClampNeg nn.toNatClampNeg)) := by
        unfold am_cell
        rw [if_neg (show ¬ (w.1 a).1 < 90 by rw [hsh]; decide)]
        show Sum.inl (Γ.2.1 (w.1 a).1, (w.1 a).2, am_ar Γ (am_sI w (am_cpI w.2.1 a0 a sp.toNatClampNeg dp.toNatClampNeg nn.toNatClampNeg)) a) = _
        have e2 : am_ar Γ (am_sI w (am_cpI w.2.1 a0 a sp.toNatClampNeg dp.toNatClampNeg nn.toNatClampNeg)) a = .inl (va_cpy (w.2.1 a0) (w.2.1 a) sp.toNatClampNeg dp.toNatClampNeg nn.toNatClampNeg) := by
          unfold am_ar
          dsimp only
          rw [hsh]
          exact congrArg Sum.inl (funext fun j => by unfold am_cpI; rw [if_pos rfl])
        rw [e2, hsh]
      have hne : ∀ b j, b ≠ a → am_cpI w.2.1 a0 a sp.toNatClampNeg dp.toNatClampNeg nn.toNatClampNeg b j = w.2.1 b j := fun b j hb => by unfold am_cpI; rw [if_neg hb]
      refine va_copyi hx hb (by rw [hml, ← hln]; exact hl.1.symm) hown hlk (hts _ (am_pwi 11 rfl)) (hts _ (am_pwi 12 rfl)) (hts _ (am_pwi 13 rfl)) henv.1 hr.2.1 hr.2.2.1 hS (a0 - 1) (a - 1) 0 0 y5 o5 rfl rfl rfl c1 c2 c3 c4 c5 (fun _ _ => rfl) (by omega) (by rw [am_cat_sum (am_env_cat henv), am_nfw]; omega) hd (fun H1 locs1 hP1 hD1 hS1 => ?_)
      · rw [← e1] at hP1 hD1
        have hqq := hK _ _ _ _ hsk H1 locs1 lc (am_up_rep hr o1 o2 rfl rfl hne (fun b j hb => rfl) (fun b j hb => rfl) (fun hh => by rw [hsh] at hh; omega) hP1 hD1 (fun hh => by omega)) hcn hS1 hl hln
        rw [hn] at hqq
        exact hqq
    · rw [Bool.eq_false_iff.mpr h8, cond_false] at hs4
      exact hs4.elim
  · rw [Bool.eq_false_iff.mpr h204, cond_false] at hs
    exact hs.elim

theorem am_c_fdiv {Γ : am_G} {l : Launch} {mid d : Nat} {Q : am_Q} {p : Program} {e : Env} {R : Room} {s : State} {m : MethodId} {args : Array Value} {below : List Frame} {meth : Method} {c : Code} {Z : State → Prop} {K : am_K} {Cl : am_C} {n h : Nat} {ls st : List Value} {w : am_W} (hc : am_cx Γ l mid d Q p e R s m args below meth c Z) (hk : am_ck mid n h (.fdiv)) (hK : ∀ n ls st w, K n ls st w → am_At Γ l mid p e R s m args below meth c Z n ls st w) (hs : am_stp Cl (am_bd mid) Q K (.fdiv) n ls st w) : am_At Γ l mid p e R s m args below meth c Z n ls st w := by
  obtain ⟨hx, hb, hml, hown, hts, henv, hini, hfr, hlo, hbc, hbs, hsz, hret⟩ := hc
  intro H locs lc hr hcn hS hl hln
  simp only [am_ck, am_ck1, Bool.and_eq_true] at hk
  obtain ⟨⟨hd, hn⟩, hm⟩ := hk
  have hd := am_dq_ok hd
  have hn := am_beq hn
  have hlk := hts _ (am_LP_in _ (List.mem_map_of_mem (am_m3_ok hm)))
  unfold am_stp at hs
  dsimp only at hs
  by_cases h204 : Nat.ble 204 w.2.2.2.2.1 = true
  · rw [h204, cond_true] at hs
    have h204 := Nat.le_of_ble_eq_true h204
    obtain ⟨nn, r0, e0, hs0⟩ := am_pi_ex hs
    subst e0
    obtain ⟨dp, r1, e1, hs1⟩ := am_pi_ex hs0
    subst e1
    obtain ⟨a, r2, e2, hs2⟩ := am_pr_ex hs1
    subst e2
    obtain ⟨sp, r3, e3, hs3⟩ := am_pi_ex hs2
    subst e3
    obtain ⟨a0, r4, e4, hs4⟩ := am_pr_ex hs3
    subst e4
    by_cases h8 : Nat.ble (am_cat r4) 8 = true
    · rw [h8, cond_true] at hs4
      have h8 := Nat.le_of_ble_eq_true h8
      obtain ⟨⟨hs0a, hsh⟩, ⟨c1, c2, c3, c4, c5⟩, hsk⟩ := hs4
      obtain ⟨o1, o2, o3, o5⟩ := am_arr hr henv hsh (by decide) (by decide)
      have e0 : am_ar Γ w a = .inl (w.2.1 a) := by unfold am_ar; rw [hsh]; rfl
      rw [e0] at o5
      obtain ⟨ha0, t, hv, hT⟩ := am_ro1 hr henv hs0a
      obtain ⟨ro1, ro2, ro3⟩ := hr.1.2.2.2 a0 ha0
      rw [ro1] at c4
      have e12 : Γ.2.2.2.2.2 a0 = w.2.1 a0 := funext fun j => (ro2 j).symm
      have hT : va_T .int t (Γ.2.2.2.2.1 a0).2 (fun j => .int (w.2.1 a0 j)) (am_A Γ) s s.heap := by rw [← e12]; exact hT
      show W p l e R s m args below meth c H locs w.2.2.2.2.2.1 w.2.2.2.2.2.2 Z (F0 m ((am_ct mid).1.getD n 0) lc (.int nn :: .int dp :: am_cv Γ (.ref a) :: .int sp :: am_cv Γ (.ref a0) :: r4.map (am_cv Γ)))
      rw [am_cv_own o1 o3, am_cv_ro ha0, hv]
      have e1 : am_cell Γ (am_sI w (am_cpI w.2.1 a0 a sp.toNatClampNeg dp.toNatClampNeg nn.toNatClampNeg)) a = .inl (Γ.2.1 100, (w.1 a).2, .inl (va_cpy (w.2.1 a0) (w.2.1 a) sp.toNatClampNeg dp.toNatClampNeg nn.toNatClampNeg)) := by
        unfold am_cell
        rw [if_neg (show ¬ (w.1 a).1 < 90 by rw [hsh]; decide)]
        show Sum.inl (Γ.2.1 (w.1 a).1, (w.1 a).2, am_ar Γ (am_sI w (am_cpI w.2.1 a0 a sp.toNatClampNeg dp.toNatClampNeg nn.toNatClampNeg)) a) = _
        have e2 : am_ar Γ (am_sI w (am_cpI w.2.1 a0 a sp.toNatClampNeg dp.toNatClampNeg nn.toNatClampNeg)) a = .inl (va_cpy (w.2.1 a0) (w.2.1 a) sp.toNatClampNeg dp.toNatClampNeg nn.toNatClampNeg) := by
          unfold am_ar
          dsimp only
          rw [hsh]
          exact congrArg Sum.inl (funext fun j => by unfold am_cpI; rw [if_pos rfl])
        rw [e2, hsh]
      have hne : ∀ b j, b ≠ a → am_cpI w.2.1 a0 a sp.toNatClampNeg dp.toNatClampNeg nn.toNatClampNeg b j = w.2.1 b j := fun b j hb => by unfold am_cpI; rw [if_neg hb]
      refine am_copyT hx hb (by rw [hml, ← hln]; exact hl.1.symm) hown hlk (hts _ (am_pwi 11 rfl)) (hts _ (am_pwi 12 rfl)) (hts _ (am_pwi 13 rfl)) henv.1 hr.2.1 hr.2.2.1 hS hT (a - 1) 0 o5 rfl c1 c2 c3 c4 c5 (by omega) (by rw [am_cat_sum (am_env_cat henv), am_nfw]; omega) hd (fun H1 locs1 hP1 hD1 hS1 => ?_)
      · rw [← e1] at hP1 hD1
        have hqq := hK _ _ _ _ hsk H1 locs1 lc (am_up_rep hr o1 o2 rfl rfl hne (fun b j hb => rfl) (fun b j hb => rfl) (fun hh => by rw [hsh] at hh; omega) hP1 hD1 (fun hh => by omega)) hcn hS1 hl hln
        rw [hn] at hqq
        exact hqq
    · rw [Bool.eq_false_iff.mpr h8, cond_false] at hs4
      exact hs4.elim
  · rw [Bool.eq_false_iff.mpr h204, cond_false] at hs
    exact hs.elim

theorem am_c_ireturn {Γ : am_G} {l : Launch} {mid d : Nat} {Q : am_Q} {p : Program} {e : Env} {R : Room} {s : State} {m : MethodId} {args : Array Value} {below : List Frame} {meth : Method} {c : Code} {Z : State → Prop} {K : am_K} {Cl : am_C} {n h : Nat} {ls st : List Value} {w : am_W} (hc : am_cx Γ l mid d Q p e R s m args below meth c Z) (hk : am_ck mid n h (.ireturn)) (hK : ∀ n ls st w, K n ls st w → am_At Γ l mid p e R s m args below meth c Z n ls st w) (hs : am_stp Cl (am_bd mid) Q K (.ireturn) n ls st w) : am_At Γ l mid p e R s m args below meth c Z n ls st w := by
  obtain ⟨hx, hb, hml, hown, hts, henv, hini, hfr, hlo, hbc, hbs, hsz, hret⟩ := hc
  intro H locs lc hr hcn hS hl hln
  simp only [am_ck, am_ck1, Bool.and_eq_true] at hk
  obtain ⟨hd, ht⟩ := hk
  unfold am_stp at hs
  dsimp only at hs
  split at hs
  · rename_i x
    exact hret [.int x] w H locs _ lc hs hr hcn hS ⟨am_dq_ok hd, .int, of_decide_eq_true ht, rfl⟩
  · exact hs.elim

theorem am_c_lreturn {Γ : am_G} {l : Launch} {mid d : Nat} {Q : am_Q} {p : Program} {e : Env} {R : Room} {s : State} {m : MethodId} {args : Array Value} {below : List Frame} {meth : Method} {c : Code} {Z : State → Prop} {K : am_K} {Cl : am_C} {n h : Nat} {ls st : List Value} {w : am_W} (hc : am_cx Γ l mid d Q p e R s m args below meth c Z) (hk : am_ck mid n h (.lreturn)) (hK : ∀ n ls st w, K n ls st w → am_At Γ l mid p e R s m args below meth c Z n ls st w) (hs : am_stp Cl (am_bd mid) Q K (.lreturn) n ls st w) : am_At Γ l mid p e R s m args below meth c Z n ls st w := by
  obtain ⟨hx, hb, hml, hown, hts, henv, hini, hfr, hlo, hbc, hbs, hsz, hret⟩ := hc
  intro H locs lc hr hcn hS hl hln
  simp only [am_ck, am_ck1, Bool.and_eq_true] at hk
  obtain ⟨hd, ht⟩ := hk
  unfold am_stp at hs
  dsimp only at hs
  split at hs
  · rename_i x
    exact hret [.long x] w H locs _ lc hs hr hcn hS ⟨am_dq_ok hd, of_decide_eq_true ht⟩
  · exact hs.elim

theorem am_c_areturn {Γ : am_G} {l : Launch} {mid d : Nat} {Q : am_Q} {p : Program} {e : Env} {R : Room} {s : State} {m : MethodId} {args : Array Value} {below : List Frame} {meth : Method} {c : Code} {Z : State → Prop} {K : am_K} {Cl : am_C} {n h : Nat} {ls st : List Value} {w : am_W} (hc : am_cx Γ l mid d Q p e R s m args below meth c Z) (hk : am_ck mid n h (.areturn)) (hK : ∀ n ls st w, K n ls st w → am_At Γ l mid p e R s m args below meth c Z n ls st w) (hs : am_stp Cl (am_bd mid) Q K (.areturn) n ls st w) : am_At Γ l mid p e R s m args below meth c Z n ls st w := by
  obtain ⟨hx, hb, hml, hown, hts, henv, hini, hfr, hlo, hbc, hbs, hsz, hret⟩ := hc
  intro H locs lc hr hcn hS hl hln
  simp only [am_ck, am_ck1, Bool.and_eq_true] at hk
  obtain ⟨hd, ht⟩ := hk
  unfold am_stp at hs
  dsimp only at hs
  split at hs
  · rename_i x
    exact hret [.ref x] w H locs _ lc hs.2 hr hcn hS ⟨am_dq_ok hd, of_decide_eq_true ht, hs.1⟩
  · exact hs.elim

theorem am_c_return_ {Γ : am_G} {l : Launch} {mid d : Nat} {Q : am_Q} {p : Program} {e : Env} {R : Room} {s : State} {m : MethodId} {args : Array Value} {below : List Frame} {meth : Method} {c : Code} {Z : State → Prop} {K : am_K} {Cl : am_C} {n h : Nat} {ls st : List Value} {w : am_W} (hc : am_cx Γ l mid d Q p e R s m args below meth c Z) (hk : am_ck mid n h (.return_)) (hK : ∀ n ls st w, K n ls st w → am_At Γ l mid p e R s m args below meth c Z n ls st w) (hs : am_stp Cl (am_bd mid) Q K (.return_) n ls st w) : am_At Γ l mid p e R s m args below meth c Z n ls st w := by
  obtain ⟨hx, hb, hml, hown, hts, henv, hini, hfr, hlo, hbc, hbs, hsz, hret⟩ := hc
  intro H locs lc hr hcn hS hl hln
  simp only [am_ck, am_ck1, Bool.and_eq_true] at hk
  obtain ⟨hd, ht⟩ := hk
  unfold am_stp at hs
  dsimp only at hs
  split at hs
  · exact hret [] w H locs _ lc hs hr hcn hS ⟨am_dq_ok hd, of_decide_eq_true ht⟩
  · exact hs.elim

theorem am_c_ret {Γ : am_G} {l : Launch} {mid d : Nat} {Q : am_Q} {p : Program} {e : Env} {R : Room} {s : State} {m : MethodId} {args : Array Value} {below : List Frame} {meth : Method} {c : Code} {Z : State → Prop} {K : am_K} {Cl : am_C} {n h : Nat} {ls st : List Value} {w : am_W} {t : Nat} (hc : am_cx Γ l mid d Q p e R s m args below meth c Z) (hk : am_ck mid n h (.ret t)) (hK : ∀ n ls st w, K n ls st w → am_At Γ l mid p e R s m args below meth c Z n ls st w) (hs : am_stp Cl (am_bd mid) Q K (.ret t) n ls st w) : am_At Γ l mid p e R s m args below meth c Z n ls st w := by
  obtain ⟨hx, hb, hml, hown, hts, henv, hini, hfr, hlo, hbc, hbs, hsz, hret⟩ := hc
  intro H locs lc hr hcn hS hl hln
  simp only [am_ck, am_ck1, Bool.and_eq_true] at hk
  obtain ⟨hd, ht⟩ := hk
  unfold am_stp at hs
  dsimp only at hs
  split at hs
  · rename_i x
    obtain ⟨h1, h2⟩ := hs
    refine hret [.int x] w H locs _ lc h2 hr hcn hS ⟨am_dq_ok hd, ?_⟩
    simp only [Bool.or_eq_true, Bool.and_eq_true] at ht
    rcases ht with (⟨z, ht⟩ | ⟨z, ht⟩) | ⟨z, ht⟩ <;> have z := am_beq z <;> subst z <;> refine ⟨_, of_decide_eq_true ht, ?_⟩
    · rcases h1 with rfl | rfl <;> rfl
    · have h1 : (x.toUInt32 % 65536).toInt32 = x := h1
      rw [← h1]
      exact pk_nc x
    · have h1 : x.toInt8.toInt32 = x := h1
      rw [← h1]
      exact pk_nb x
  · exact hs.elim

theorem am_tab_in (x : Int) : ∀ (l : List Int) (lo d : Int), ¬ x < lo → x < lo + l.length → ∃ t, l[(x - lo).toNat]? = some t ∧ am_tab x lo l d = t := by
  intro l
  induction l with
  | nil => intro lo d h1 h2; simp at h2; omega
  | cons t l ih =>
    intro lo d h1 h2
    by_cases e : x = lo
    · refine ⟨t, ?_, ?_⟩
      · rw [e]; simp
      · simp [am_tab, e]
    · obtain ⟨t', h3, h4⟩ := ih (lo + 1) d (by omega) (by simp at h2; omega)
      refine ⟨t', ?_, ?_⟩
      · rw [show (x - lo).toNat = (x - (lo + 1)).toNat + 1 by omega, List.getElem?_cons_succ]; exact h3
      · simp [am_tab, e, h4]
theorem am_tab_out (x : Int) : ∀ (l : List Int) (lo d : Int), (x < lo ∨ lo + l.length ≤ x) → am_tab x lo l d = d := by
  intro l
  induction l with
  | nil => intro lo d _; rfl
  | cons t l ih =>
    intro lo d h
    have e : x ≠ lo := by simp at h; omega
    simp only [am_tab, if_neg e]
    exact ih (lo + 1) d (by simp at h; omega)
theorem am_lkp_ok (x d : Int) (f : Int → Int) : ∀ (l : List (Int × Int)), Op.lookupswitch.offset (l.map fun q => (q.1, f q.2)) (f d) x = f (am_lkp x l d) := by
  intro l
  induction l with
  | nil => rfl
  | cons q l ih =>
    rw [List.map_cons, Op.lookupswitch.offset_cons]
    by_cases e : q.1 = x
    · rw [if_pos e]
      simp [am_lkp, e]
    · rw [if_neg e, ih]
      simp [am_lkp, Ne.symm e]

theorem am_c_tableswitch {Γ : am_G} {l : Launch} {mid d : Nat} {Q : am_Q} {p : Program} {e : Env} {R : Room} {s : State} {m : MethodId} {args : Array Value} {below : List Frame} {meth : Method} {c : Code} {Z : State → Prop} {K : am_K} {Cl : am_C} {n h : Nat} {ls st : List Value} {w : am_W} {dd lo hi : Int} {ts : Array Int} (hc : am_cx Γ l mid d Q p e R s m args below meth c Z) (hk : am_ck mid n h (.tableswitch dd lo hi ts)) (hK : ∀ n ls st w, K n ls st w → am_At Γ l mid p e R s m args below meth c Z n ls st w) (hs : am_stp Cl (am_bd mid) Q K (.tableswitch dd lo hi ts) n ls st w) : am_At Γ l mid p e R s m args below meth c Z n ls st w := by
  obtain ⟨hx, hb, hml, hown, hts, henv, hini, hfr, hlo, hbc, hbs, hsz, hret⟩ := hc
  intro H locs lc hr hcn hS hl hln
  simp only [am_ck, am_ck1, Bool.and_eq_true] at hk
  obtain ⟨hd, hsz0⟩ := hk
  have hd := am_dq_ok hd
  have hsz0 := of_decide_eq_true hsz0
  unfold am_stp at hs
  dsimp only at hs
  obtain ⟨x, r0, e0, hs0⟩ := am_pi_ex hs
  subst e0
  have hqq := hK _ _ _ _ hs0 H locs lc hr hcn hS hl hln
  have hlen : ts.toList.length = ts.size := by simp
  by_cases h1 : x.toInt < lo ∨ hi < x.toInt
  · rw [am_tab_out x.toInt ts.toList lo dd (by omega)] at hqq
    exact lv_tableOut hx hb hd h1 (by unfold am_tg; omega) hqq
  · obtain ⟨t, h3, h4⟩ := am_tab_in x.toInt ts.toList lo dd (by omega) (by omega)
    rw [h4] at hqq
    exact lv_tableIn hx hb hd (by omega) (by omega) (by rw [Array.getElem?_map, ← Array.getElem?_toList, h3]; rfl) (by unfold am_tg; omega) hqq

theorem am_c_lookupswitch {Γ : am_G} {l : Launch} {mid d : Nat} {Q : am_Q} {p : Program} {e : Env} {R : Room} {s : State} {m : MethodId} {args : Array Value} {below : List Frame} {meth : Method} {c : Code} {Z : State → Prop} {K : am_K} {Cl : am_C} {n h : Nat} {ls st : List Value} {w : am_W} {dd : Int} {ps : Array (Int × Int)} (hc : am_cx Γ l mid d Q p e R s m args below meth c Z) (hk : am_ck mid n h (.lookupswitch dd ps)) (hK : ∀ n ls st w, K n ls st w → am_At Γ l mid p e R s m args below meth c Z n ls st w) (hs : am_stp Cl (am_bd mid) Q K (.lookupswitch dd ps) n ls st w) : am_At Γ l mid p e R s m args below meth c Z n ls st w := by
  obtain ⟨hx, hb, hml, hown, hts, henv, hini, hfr, hlo, hbc, hbs, hsz, hret⟩ := hc
  intro H locs lc hr hcn hS hl hln
  simp only [am_ck, am_ck1, Bool.and_eq_true] at hk
  obtain ⟨hd, hso⟩ := hk
  have hd := am_dq_ok hd
  unfold am_stp at hs
  dsimp only at hs
  obtain ⟨x, r0, e0, hs0⟩ := am_pi_ex hs
  subst e0
  have hqq := hK _ _ _ _ hs0 H locs lc hr hcn hS hl hln
  have e1 : (ps.map (fun q => (q.1, am_tg (am_ct mid).1 ((am_ct mid).1.getD n 0) q.2))).toList = ps.toList.map (fun q => (q.1, am_tg (am_ct mid).1 ((am_ct mid).1.getD n 0) q.2)) := by simp
  refine lv_lookup (off := am_tg (am_ct mid).1 ((am_ct mid).1.getD n 0) (am_lkp x.toInt ps.toList dd)) hx hb hd ?_ (by rw [e1]; exact am_lkp_ok x.toInt dd (am_tg (am_ct mid).1 ((am_ct mid).1.getD n 0)) ps.toList) (by unfold am_tg; omega) hqq
  rw [e1, ← List.map_drop, List.zip_map, List.all_map]
  exact hso
