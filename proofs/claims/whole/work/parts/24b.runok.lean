/-! the run of the constructors is the machine's -/
theorem cr_bif {α : Type} {c : Bool} {x y : α} (h : (bif c then some x else none) = some y) : c = true ∧ x = y := by
  cases c with
  | true => exact ⟨rfl, Option.some.inj h⟩
  | false => cases h
theorem cr_inj {a a' : Nat} {b b' c c' : List Value} {d d' : cr_S} (h : some (a, b, c, d) = some (a', b', c', d')) : a = a' ∧ b = b' ∧ c = c' ∧ d = d' := by
  cases h
  exact ⟨rfl, rfl, rfl, rfl⟩
theorem cr_beqf {a b : Nat} (h : (!Nat.beq a b) = true) : a ≠ b := fun e => by
  subst e
  have : Nat.beq a a = true := Nat.beq_refl a
  rw [this] at h
  cases h
theorem cr_w_sh {n : Nat} {b : am_W} (hb : cr_b n b) : ∀ (l : cr_D) (nx a : Nat), (cr_w b l).2.2.2.2.1 = nx → a ≠ 6000 → (cr_w b l).1 a = cr_sh l nx a := by
  intro l
  induction l with
  | nil =>
    intro nx a _ ha
    show b.1 a = bif Nat.blt a 5000 then (0, 0) else x_s0 a
    rcases Nat.lt_or_ge a 5000 with h | h
    · rw [show Nat.blt a 5000 = true from Nat.ble_eq_true_of_le h, cond_true]
      exact (hb.1 a h).1
    · rw [show Nat.blt a 5000 = false from Bool.eq_false_iff.mpr (fun e => absurd (Nat.le_of_ble_eq_true e) (by omega)), cond_false, (hb.2.1 a h).1]
      unfold x_sh
      rw [x_nbeq ha, cond_false]
  | cons e l ih =>
    intro nx a hn ha
    obtain ⟨t, x, y, v⟩ := e
    match t with
    | 0 =>
      have hn : (cr_w b l).2.2.2.2.1 + 1 = nx := hn
      show (if a = (cr_w b l).2.2.2.2.1 then (x, y) else (cr_w b l).1 a) = bif Nat.beq (a + 1) nx then (x, y) else cr_sh l (nx - 1) a
      by_cases c : a = (cr_w b l).2.2.2.2.1
      · rw [if_pos c, show Nat.beq (a + 1) nx = true by rw [← hn, c]; exact Nat.beq_refl _, cond_true]
      · rw [if_neg c, x_nbeq (show ¬ a + 1 = nx by omega), cond_false]
        exact ih _ a (by omega) ha
    | 1 => exact ih nx a hn ha
    | 2 => exact ih nx a hn ha
    | 3 => exact ih nx a hn ha
    | t + 4 =>
      have hn : (cr_w b l).2.2.2.2.1 + 5 = nx := hn
      show (am_w5 (cr_w b l)).1 a = bif Nat.ble (nx - 4) a && Nat.blt a nx then (100, 8) else bif Nat.beq (a + 5) nx then (106, 4) else cr_sh l (nx - 5) a
      rw [am_w5_1]
      by_cases c : nx - 4 ≤ a ∧ a < nx
      · rw [show (Nat.ble (nx - 4) a && Nat.blt a nx) = true by rw [Nat.ble_eq_true_of_le c.1, show Nat.blt a nx = true from Nat.ble_eq_true_of_le c.2]; rfl, cond_true]
        by_cases c4 : a = (cr_w b l).2.2.2.2.1 + 4
        · rw [if_pos c4]
        · rw [if_neg c4]
          by_cases c3 : a = (cr_w b l).2.2.2.2.1 + 3
          · rw [if_pos c3]
          · rw [if_neg c3]
            by_cases c2 : a = (cr_w b l).2.2.2.2.1 + 2
            · rw [if_pos c2]
            · rw [if_neg c2, if_pos (by omega)]
      · have cf : (Nat.ble (nx - 4) a && Nat.blt a nx) = false := by
          rw [Bool.and_eq_false_iff]
          rcases Nat.lt_or_ge a (nx - 4) with h | h
          · exact Or.inl (Bool.eq_false_iff.mpr (fun e => absurd (Nat.le_of_ble_eq_true e) (by omega)))
          · exact Or.inr (Bool.eq_false_iff.mpr (fun e => absurd (Nat.le_of_ble_eq_true e) (by omega)))
        rw [cf, cond_false, if_neg (by omega), if_neg (by omega), if_neg (by omega), if_neg (by omega)]
        by_cases c0 : a = (cr_w b l).2.2.2.2.1
        · rw [if_pos c0, show Nat.beq (a + 5) nx = true by rw [← hn, c0]; exact Nat.beq_refl _, cond_true]
        · rw [if_neg c0, x_nbeq (show ¬ a + 5 = nx by omega), cond_false]
          exact ih _ a (by omega) ha
theorem cr_w_R {n : Nat} {b : am_W} (hb : cr_b n b) : ∀ (l : cr_D) (nx a k : Nat), (cr_w b l).2.2.2.2.1 = nx → (cr_w b l).2.2.2.1 a k = cr_R l nx a k := by
  intro l
  induction l with
  | nil =>
    intro nx a k _
    show b.2.2.2.1 a k = bif Nat.blt a 5000 then 0 else x_r0 a k
    rcases Nat.lt_or_ge a 5000 with h | h
    · rw [show Nat.blt a 5000 = true from Nat.ble_eq_true_of_le h, cond_true]
      exact (hb.1 a h).2.2.2 k
    · rw [show Nat.blt a 5000 = false from Bool.eq_false_iff.mpr (fun e => absurd (Nat.le_of_ble_eq_true e) (by omega)), cond_false, (hb.2.1 a h).2]
  | cons e l ih =>
    intro nx a k hn
    obtain ⟨t, x, y, v⟩ := e
    match t with
    | 0 =>
      have hn : (cr_w b l).2.2.2.2.1 + 1 = nx := hn
      show (if a = (cr_w b l).2.2.2.2.1 then 0 else (cr_w b l).2.2.2.1 a k) = bif Nat.beq (a + 1) nx then 0 else cr_R l (nx - 1) a k
      by_cases c : a = (cr_w b l).2.2.2.2.1
      · rw [if_pos c, show Nat.beq (a + 1) nx = true by rw [← hn, c]; exact Nat.beq_refl _, cond_true]
      · rw [if_neg c, x_nbeq (show ¬ a + 1 = nx by omega), cond_false]
        exact ih _ a k (by omega)
    | 1 => exact ih nx a k hn
    | 2 =>
      show (if a = x then (if k = y then v.toNat else (cr_w b l).2.2.2.1 a k) else (cr_w b l).2.2.2.1 a k) = bif Nat.beq a x && Nat.beq k y then v.toNat else cr_R l nx a k
      by_cases c : a = x
      · by_cases c2 : k = y
        · rw [if_pos c, if_pos c2, c, c2, Nat.beq_refl, Nat.beq_refl]; rfl
        · rw [if_pos c, if_neg c2, x_nbeq c2, Bool.and_false, cond_false]
          exact ih nx a k hn
      · rw [if_neg c, x_nbeq c, Bool.false_and, cond_false]
        exact ih nx a k hn
    | 3 => exact ih nx a k hn
    | t + 4 =>
      have hn : (cr_w b l).2.2.2.2.1 + 5 = nx := hn
      show (am_w5 (cr_w b l)).2.2.2.1 a k = bif Nat.beq (a + 5) nx then (bif Nat.blt k 4 then nx - 4 + k else 0) else bif Nat.ble (nx - 4) a && Nat.blt a nx then 0 else cr_R l (nx - 5) a k
      rw [am_w5_R]
      by_cases c0 : a = (cr_w b l).2.2.2.2.1
      · rw [if_pos c0, show Nat.beq (a + 5) nx = true by rw [← hn, c0]; exact Nat.beq_refl _, cond_true]
        by_cases ck : k < 4
        · rw [if_pos ck, show Nat.blt k 4 = true from Nat.ble_eq_true_of_le ck, cond_true]; omega
        · rw [if_neg ck, show Nat.blt k 4 = false from Bool.eq_false_iff.mpr (fun e => absurd (Nat.le_of_ble_eq_true e) (by omega)), cond_false]
      · rw [if_neg c0, x_nbeq (show ¬ a + 5 = nx by omega), cond_false]
        by_cases c : nx - 4 ≤ a ∧ a < nx
        · rw [show (Nat.ble (nx - 4) a && Nat.blt a nx) = true by rw [Nat.ble_eq_true_of_le c.1, show Nat.blt a nx = true from Nat.ble_eq_true_of_le c.2]; rfl, cond_true]
          by_cases c4 : a = (cr_w b l).2.2.2.2.1 + 4
          · rw [if_pos c4]
          · rw [if_neg c4]
            by_cases c3 : a = (cr_w b l).2.2.2.2.1 + 3
            · rw [if_pos c3]
            · rw [if_neg c3]
              by_cases c2 : a = (cr_w b l).2.2.2.2.1 + 2
              · rw [if_pos c2]
              · rw [if_neg c2, if_pos (by omega)]
        · have cf : (Nat.ble (nx - 4) a && Nat.blt a nx) = false := by
            rw [Bool.and_eq_false_iff]
            rcases Nat.lt_or_ge a (nx - 4) with h | h
            · exact Or.inl (Bool.eq_false_iff.mpr (fun e => absurd (Nat.le_of_ble_eq_true e) (by omega)))
            · exact Or.inr (Bool.eq_false_iff.mpr (fun e => absurd (Nat.le_of_ble_eq_true e) (by omega)))
          rw [cf, cond_false, if_neg (by omega), if_neg (by omega), if_neg (by omega), if_neg (by omega), if_neg c0]
          exact ih _ a k (by omega)
theorem cr_br1 {c : ClassFile.Cond} {x y : Int32} (h : cr_br c x y = true) : am_brc c x y ∧ ¬ am_brn c x y := by
  cases c <;> simp_all [cr_br, am_brc, am_brn]
theorem cr_br0 {c : ClassFile.Cond} {x y : Int32} (h : cr_br c x y = false) : ¬ am_brc c x y ∧ am_brn c x y := by
  cases c <;> simp_all [cr_br, am_brc, am_brn]
theorem cr_st_ok {n : Nat} {b : am_W} (hb : cr_b n b) {bd : Nat × Nat} {i : Instr} {pc pc' : Nat} {ls st ls' st' : List Value} {S S' : cr_S} {Cl : am_C} {Q : am_Q} {K : am_K} (h : cr_st bd i pc ls st S = some (pc', ls', st', S')) (hS : cr_ok b S) : cr_ok b S' ∧ (K pc' ls' st' (cr_w b S'.1) → am_stp Cl bd Q K i pc ls st (cr_w b S.1)) := by
  have e1 : (cr_w b S.1).2.2.2.2.1 = S.2.1 := by rw [hS.1]
  have e2 : (cr_w b S.1).2.2.2.2.2.1 = S.2.2.1 := by rw [hS.1]
  have e3 : (cr_w b S.1).2.2.2.2.2.2 = S.2.2.2 := by rw [hS.1]
  have sh : ∀ a, a ≠ 6000 → (cr_w b S.1).1 a = cr_sh S.1 S.2.1 a := fun a ha => cr_w_sh hb S.1 S.2.1 a e1 ha
  cases i
  case sipush v =>
    obtain ⟨rfl, rfl, rfl, rfl⟩ := cr_inj h
    exact ⟨hS, fun k => k⟩
  case aconst_null =>
    obtain ⟨rfl, rfl, rfl, rfl⟩ := cr_inj h
    exact ⟨hS, fun k => k⟩
  case ldc a =>
    obtain ⟨rfl, rfl, rfl, rfl⟩ := cr_inj h
    exact ⟨hS, fun k => k⟩
  case iload k =>
    unfold cr_st at h
    dsimp only at h
    split at h
    · rename_i x hx
      obtain ⟨rfl, rfl, rfl, rfl⟩ := cr_inj h
      refine ⟨hS, fun k => ?_⟩
      unfold am_stp
      dsimp only
      rw [hx]
      exact k
    · cases h
  case aload k =>
    unfold cr_st at h
    dsimp only at h
    split at h
    · rename_i x hx
      obtain ⟨rfl, rfl, rfl, rfl⟩ := cr_inj h
      refine ⟨hS, fun k => ?_⟩
      unfold am_stp
      dsimp only
      rw [hx]
      exact k
    · cases h
  case istore k =>
    unfold cr_st at h
    dsimp only at h
    split at h
    · obtain ⟨hc, h⟩ := cr_bif h
      obtain ⟨rfl, rfl, rfl, rfl⟩ := cr_inj (congrArg some h)
      refine ⟨hS, fun k => ?_⟩
      show (bif _ then _ else False)
      rw [hc, cond_true]
      exact k
    · cases h
  case astore k =>
    unfold cr_st at h
    dsimp only at h
    split at h
    · obtain ⟨hc, h⟩ := cr_bif h
      obtain ⟨rfl, rfl, rfl, rfl⟩ := cr_inj (congrArg some h)
      refine ⟨hS, fun k => ?_⟩
      show (bif _ then _ else False)
      rw [hc, cond_true]
      exact k
    · cases h
  case iinc k c =>
    unfold cr_st at h
    dsimp only at h
    split at h
    · rename_i x hx
      obtain ⟨hc, h⟩ := cr_bif h
      obtain ⟨rfl, rfl, rfl, rfl⟩ := cr_inj (congrArg some h)
      refine ⟨hS, fun k => ?_⟩
      unfold am_stp
      dsimp only
      rw [hx]
      dsimp only
      rw [hc, cond_true]
      exact k
    · cases h
  case dup =>
    unfold cr_st at h
    dsimp only at h
    split at h
    · obtain ⟨rfl, rfl, rfl, rfl⟩ := cr_inj h
      exact ⟨hS, fun k => k⟩
    · cases h
  case goto t =>
    obtain ⟨rfl, rfl, rfl, rfl⟩ := cr_inj h
    exact ⟨hS, fun k => k⟩
  case ifCond c t =>
    unfold cr_st at h
    dsimp only at h
    split at h
    · rename_i x r
      cases hc : cr_br c x 0 with
      | true =>
        rw [hc, cond_true] at h
        obtain ⟨rfl, rfl, rfl, rfl⟩ := cr_inj h
        exact ⟨hS, fun k => ⟨fun _ => k, fun h => absurd h (cr_br1 hc).2⟩⟩
      | false =>
        rw [hc, cond_false] at h
        obtain ⟨rfl, rfl, rfl, rfl⟩ := cr_inj h
        exact ⟨hS, fun k => ⟨fun h => absurd h (cr_br0 hc).1, fun _ => k⟩⟩
    · cases h
  case if_icmp c t =>
    unfold cr_st at h
    dsimp only at h
    split at h
    · rename_i y x r
      cases hc : cr_br c x y with
      | true =>
        rw [hc, cond_true] at h
        obtain ⟨rfl, rfl, rfl, rfl⟩ := cr_inj h
        exact ⟨hS, fun k => ⟨fun _ => k, fun h => absurd h (cr_br1 hc).2⟩⟩
      | false =>
        rw [hc, cond_false] at h
        obtain ⟨rfl, rfl, rfl, rfl⟩ := cr_inj h
        exact ⟨hS, fun k => ⟨fun h => absurd h (cr_br0 hc).1, fun _ => k⟩⟩
    · cases h
  case ishr =>
    unfold cr_st at h
    dsimp only at h
    split at h
    · obtain ⟨rfl, rfl, rfl, rfl⟩ := cr_inj h
      exact ⟨hS, fun k => k⟩
    · cases h
  case getfield q =>
    unfold cr_st at h
    dsimp only at h
    split at h
    · rename_i a r
      cases hc : (Nat.beq (cr_sh S.1 S.2.1 a).1 (q / 256) && !Nat.beq a 6000) with
      | false => rw [hc, cond_false] at h; cases h
      | true =>
        rw [hc, cond_true] at h
        rw [Bool.and_eq_true] at hc
        have ha := cr_beqf hc.2
        have hk : ((cr_w b S.1).1 a).1 = q / 256 := by rw [sh a ha]; exact am_beq hc.1
        cases h2 : Nat.beq (q % 4) 2 with
        | true =>
          rw [h2, cond_true] at h
          obtain ⟨rfl, rfl, rfl, rfl⟩ := cr_inj h
          refine ⟨hS, fun k => ⟨hk, ?_⟩⟩
          rw [am_beq h2]
          show K _ _ (.ref ((cr_w b S.1).2.2.2.1 a (q / 4 % 64)) :: r) _
          rw [cr_w_R hb S.1 S.2.1 a _ e1]
          exact k
        | false =>
          rw [h2, cond_false] at h
          obtain ⟨h3, h⟩ := cr_bif h
          obtain ⟨rfl, rfl, rfl, rfl⟩ := cr_inj (congrArg some h)
          simp only [Bool.and_eq_true] at h3
          refine ⟨hS, fun k => ⟨hk, ?_⟩⟩
          rw [am_beq h3.2.2, am_beq h3.2.1]
          show K _ _ (.int ((cr_w b S.1).2.1 a 1) :: r) _
          rw [am_beq h3.1, hS.2]
          exact k
    · cases h
  case putfield q =>
    unfold cr_st at h
    dsimp only at h
    cases h2 : Nat.beq (q % 4) 2 with
    | true =>
      rw [h2, cond_true] at h
      split at h
      · rename_i x a r
        obtain ⟨hc, h⟩ := cr_bif h
        obtain ⟨rfl, rfl, rfl, rfl⟩ := cr_inj (congrArg some h)
        rw [Bool.and_eq_true] at hc
        have ha := cr_beqf hc.2
        have hk : ((cr_w b S.1).1 a).1 = q / 256 := by rw [sh a ha]; exact am_beq hc.1
        refine ⟨hS, fun k => ?_⟩
        unfold am_stp
        dsimp only
        rw [am_beq h2]
        exact ⟨hk, k⟩
      · cases h
    | false =>
      rw [h2, cond_false] at h
      cases h1 : Nat.beq (q % 4) 1 with
      | true => rw [h1, cond_true] at h; cases h
      | false =>
        rw [h1, cond_false] at h
        split at h
        · rename_i x a r
          obtain ⟨hc, h⟩ := cr_bif h
          obtain ⟨rfl, rfl, rfl, rfl⟩ := cr_inj (congrArg some h)
          simp only [Bool.and_eq_true, Bool.or_eq_true, decide_eq_true_eq] at hc
          obtain ⟨⟨hc1, hc2, hc5⟩, hc3⟩ := hc
          have ha := cr_beqf hc2
          have h5 := cr_beqf hc5
          have hk : ((cr_w b S.1).1 a).1 = q / 256 := by rw [sh a ha]; exact am_beq hc1
          refine ⟨⟨hS.1, ?_⟩, fun k => ?_⟩
          · show (if 5101 = a then _ else (cr_w b S.1).2.1 5101 1) = 0
            rw [if_neg (fun e => h5 e.symm)]
            exact hS.2
          have k : K (pc + 1) ls r (am_sI (cr_w b S.1) (am_u (cr_w b S.1).2.1 a (q / 4 % 64) (Int32.ofInt x.toInt))) := k
          rw [Int32.ofInt_toInt] at k
          unfold am_stp
          dsimp only
          have n2 : q % 4 ≠ 2 := fun e => by rw [e] at h2; cases h2
          have n1 : q % 4 ≠ 1 := fun e => by rw [e] at h1; cases h1
          rcases (show q % 4 = 0 ∨ q % 4 = 3 by omega) with e | e
          · rw [e]; exact ⟨hk, k⟩
          · rw [e]
            rw [e] at hc3
            refine ⟨hk, ?_, k⟩
            rcases hc3 with g | g
            · cases g
            · exact g
        · cases h
  case arraylength =>
    unfold cr_st at h
    dsimp only at h
    split at h
    · rename_i a r
      obtain ⟨hc, h⟩ := cr_bif h
      obtain ⟨rfl, rfl, rfl, rfl⟩ := cr_inj (congrArg some h)
      simp only [Bool.and_eq_true] at hc
      have ha := cr_beqf hc.2
      refine ⟨hS, fun k => ?_⟩
      show (100 ≤ ((cr_w b S.1).1 a).1 ∧ ((cr_w b S.1).1 a).1 ≤ 202) ∧ K (pc + 1) ls (.int (Int32.ofNat ((cr_w b S.1).1 a).2) :: r) (cr_w b S.1)
      rw [sh a ha]
      exact ⟨⟨Nat.le_of_ble_eq_true hc.1.1, Nat.le_of_ble_eq_true hc.1.2⟩, k⟩
    · cases h
  case aastore =>
    unfold cr_st at h
    dsimp only at h
    split at h
    · rename_i x i a r
      obtain ⟨hc, h⟩ := cr_bif h
      obtain ⟨rfl, rfl, rfl, rfl⟩ := cr_inj (congrArg some h)
      rw [Bool.and_eq_true] at hc
      obtain ⟨hc, hc4⟩ := hc
      rw [Bool.and_eq_true] at hc hc4
      obtain ⟨hc1, hc2⟩ := hc
      rw [Bool.and_eq_true] at hc2
      have ha := cr_beqf hc4.1
      have hx := cr_beqf hc4.2
      refine ⟨hS, fun k => ?_⟩
      show (((((cr_w b S.1).1 a).1 = 104 ∧ ((cr_w b S.1).1 x).1 = 1) ∨ (((cr_w b S.1).1 a).1 = 105 ∧ ((cr_w b S.1).1 x).1 = 8)) ∧ vp_in i ((cr_w b S.1).1 a).2) ∧ _
      rw [sh a ha, sh x hx]
      refine ⟨⟨?_, ?_⟩, k⟩
      · rcases (Bool.or_eq_true _ _).mp hc1 with g | g
        · rw [Bool.and_eq_true] at g
          exact Or.inl ⟨am_beq g.1, am_beq g.2⟩
        · rw [Bool.and_eq_true] at g
          exact Or.inr ⟨am_beq g.1, am_beq g.2⟩
      · rintro (g | g)
        · have := hc2.1
          rw [decide_eq_true g] at this
          cases this
        · have : i.toNatClampNeg < (cr_sh S.1 S.2.1 a).2 := Nat.le_of_ble_eq_true hc2.2
          omega
    · cases h
  case new q =>
    obtain ⟨hc, h⟩ := cr_bif h
    obtain ⟨rfl, rfl, rfl, rfl⟩ := cr_inj (congrArg some h)
    refine ⟨?_, fun k => ?_⟩
    · refine ⟨?_, (show (if 5101 = (cr_w b S.1).2.2.2.2.1 then 0 else (cr_w b S.1).2.1 5101 1) = 0 by rw [hS.2, ite_self])⟩
      show ((cr_w b S.1).2.2.2.2.1 + 1, (cr_w b S.1).2.2.2.2.2.1 + 1, (cr_w b S.1).2.2.2.2.2.2 + q % 64) = _
      rw [e1, e2, e3]
    · show (bif Nat.blt (cr_w b S.1).2.2.2.2.1 204 && (Nat.blt (cr_w b S.1).2.2.2.2.2.1 bd.1 && Nat.ble ((cr_w b S.1).2.2.2.2.2.2 + q % 64) bd.2) then K (pc + 1) ls (.ref (cr_w b S.1).2.2.2.2.1 :: st) (am_new (cr_w b S.1) (q / 64) (q % 64)) else False)
      rw [e1, e2, e3, hc, cond_true]
      exact k
  case newarray t =>
    unfold cr_st at h
    dsimp only at h
    split at h
    · rename_i m r
      obtain ⟨hc, h⟩ := cr_bif h
      obtain ⟨rfl, rfl, rfl, rfl⟩ := cr_inj (congrArg some h)
      rw [Bool.and_eq_true] at hc
      obtain ⟨hc, hc2⟩ := hc
      rw [Bool.and_eq_true, decide_eq_true_eq, decide_eq_true_eq] at hc2
      refine ⟨?_, fun k => ?_⟩
      · refine ⟨?_, (show (if 5101 = (cr_w b S.1).2.2.2.2.1 then 0 else (cr_w b S.1).2.1 5101 1) = 0 by rw [hS.2, ite_self])⟩
        show ((cr_w b S.1).2.2.2.2.1 + 1, (cr_w b S.1).2.2.2.2.2.1 + 1, (cr_w b S.1).2.2.2.2.2.2 + m.toNatClampNeg) = _
        rw [e1, e2, e3]
      · show (bif Nat.blt (cr_w b S.1).2.2.2.2.1 204 && (Nat.blt (cr_w b S.1).2.2.2.2.2.1 bd.1 && Nat.ble ((cr_w b S.1).2.2.2.2.2.2 + m.toNatClampNeg) bd.2) then (0 ≤ m ∧ m ≤ 20000) ∧ K (pc + 1) ls (.ref (cr_w b S.1).2.2.2.2.1 :: r) (am_new (cr_w b S.1) _ m.toNatClampNeg) else False)
        rw [e1, e2, e3, hc, cond_true]
        refine ⟨hc2, ?_⟩
        cases t <;> exact k
    · cases h
  case anewarray c =>
    unfold cr_st at h
    dsimp only at h
    split at h
    · rename_i m r
      obtain ⟨hc, h⟩ := cr_bif h
      obtain ⟨rfl, rfl, rfl, rfl⟩ := cr_inj (congrArg some h)
      rw [Bool.and_eq_true] at hc
      obtain ⟨hc, hc2⟩ := hc
      rw [Bool.and_eq_true, decide_eq_true_eq, decide_eq_true_eq] at hc2
      refine ⟨?_, fun k => ?_⟩
      · refine ⟨?_, (show (if 5101 = (cr_w b S.1).2.2.2.2.1 then 0 else (cr_w b S.1).2.1 5101 1) = 0 by rw [hS.2, ite_self])⟩
        show ((cr_w b S.1).2.2.2.2.1 + 1, (cr_w b S.1).2.2.2.2.2.1 + 1, (cr_w b S.1).2.2.2.2.2.2 + m.toNatClampNeg) = _
        rw [e1, e2, e3]
      · show (bif Nat.blt (cr_w b S.1).2.2.2.2.1 204 && (Nat.blt (cr_w b S.1).2.2.2.2.2.1 bd.1 && Nat.ble ((cr_w b S.1).2.2.2.2.2.2 + m.toNatClampNeg) bd.2) then (0 ≤ m ∧ m ≤ 20000) ∧ K (pc + 1) ls (.ref (cr_w b S.1).2.2.2.2.1 :: r) (am_new (cr_w b S.1) c m.toNatClampNeg) else False)
        rw [e1, e2, e3, hc, cond_true]
        exact ⟨hc2, k⟩
    · cases h
  case multianewarray k1 k2 =>
    unfold cr_st at h
    dsimp only at h
    split at h
    · rename_i m nn r
      obtain ⟨hc, h⟩ := cr_bif h
      obtain ⟨rfl, rfl, rfl, rfl⟩ := cr_inj (congrArg some h)
      rw [Bool.and_eq_true] at hc
      obtain ⟨hc, hc2⟩ := hc
      rw [Bool.and_eq_true, decide_eq_true_eq, decide_eq_true_eq] at hc2
      refine ⟨?_, fun k => ?_⟩
      · refine ⟨?_, (show (am_w5 (cr_w b S.1)).2.1 5101 1 = 0 by simp only [am_w5_I, hS.2, ite_self])⟩
        show ((cr_w b S.1).2.2.2.2.1 + 5, (cr_w b S.1).2.2.2.2.2.1 + 5, (cr_w b S.1).2.2.2.2.2.2 + 36) = _
        rw [e1, e2, e3]
      · show (bif Nat.blt ((cr_w b S.1).2.2.2.2.1 + 4) 204 && (Nat.blt ((cr_w b S.1).2.2.2.2.2.1 + 4) bd.1 && Nat.ble ((cr_w b S.1).2.2.2.2.2.2 + 36) bd.2) then (nn = 4 ∧ m = 8) ∧ K (pc + 1) ls (.ref (cr_w b S.1).2.2.2.2.1 :: r) (am_w5 (cr_w b S.1)) else False)
        rw [e1, e2, e3, hc, cond_true]
        exact ⟨hc2, k⟩
    · cases h
  case pop2 =>
    unfold cr_st at h
    dsimp only at h
    split at h
    · rename_i a r
      obtain ⟨hc, h⟩ := cr_bif h
      obtain ⟨rfl, rfl, rfl, rfl⟩ := cr_inj (congrArg some h)
      simp only [Bool.and_eq_true] at hc
      refine ⟨hS, fun k => ?_⟩
      show 1 ≤ a ∧ a < 5000 ∧ bif Nat.ble (am_cat r) 8 then K (pc + 1) ls r (cr_w b S.1) else False
      rw [hc.2, cond_true]
      exact ⟨Nat.le_of_ble_eq_true hc.1.1, Nat.le_of_ble_eq_true hc.1.2, k⟩
    · cases h
  all_goals cases h
theorem cr_tk_ok : ∀ (k : Nat) (st acc : List Value) {as r : List Value} {f : List Value → List Value → Prop}, cr_tk k st acc = some (as, r) → f as r → am_tk k st acc f := by
  intro k
  induction k with
  | zero =>
    intro st acc as r f h hf
    have h : some (acc, st) = some (as, r) := h
    cases h
    exact hf
  | succ k ih =>
    intro st acc as r f h hf
    cases st with
    | nil => cases h
    | cons v st => exact ih st (v :: acc) h hf
theorem cr_in_ok {m2 : Nat} {as : List Value} (h : cr_in m2 as = true) : am_isM (m2 - 20) ∧ (∀ v ∈ as, am_vok v = true) ∧ (am_ent as).length ≤ (am_mt m2).2.2.1 := by
  unfold cr_in at h
  simp only [Bool.and_eq_true] at h
  exact ⟨⟨Nat.le_of_ble_eq_true h.1.1, cr_beqf h.1.2⟩, List.all_eq_true.mp h.2.1, Nat.le_of_ble_eq_true h.2.2⟩
theorem cr_go {Γ : am_G} {l : Launch} {d mid : Nat} {Q : am_Q} {pc : Nat} {ls st : List Value} {w : am_W} (hM : am_isM (mid - 20)) (h : am_stp (am_Clp Γ l d) (am_bd mid) Q (am_Sm Γ l d mid Q) (am_fe (am_cod mid) pc) pc ls st w) : am_Sm Γ l d mid Q pc ls st w := am_block (stop := []) hM 1 pc ls st w h
