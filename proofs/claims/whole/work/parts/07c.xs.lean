theorem x_kbo {k : Nat} (h : x_kb k = true) : k = 102 ∨ k = 103 ∨ k = 202 := by
  unfold x_kb at h
  simp only [Bool.or_eq_true, Nat.beq_eq] at h
  exact h
theorem x_kao {k : Nat} (h : x_ka k = true) : k = 104 ∨ k = 105 ∨ k = 106 := by
  unfold x_ka at h
  simp only [Bool.or_eq_true, Nat.beq_eq] at h
  exact h
theorem x_klo {k : Nat} (h : x_kl k = true) : 100 ≤ k ∧ k ≤ 202 := by
  unfold x_kl at h
  rw [Bool.and_eq_true] at h
  exact ⟨Nat.le_of_ble_eq_true h.1, Nat.le_of_ble_eq_true h.2⟩
theorem x_nn {z : Int} (h : 0 ≤ z) (h2 : z ≤ 20000) : ¬ Int32.ofInt z < 0 ∧ (Int32.ofInt z).toNatClampNeg = z.toNat := by
  have hr : x_rg z := ⟨by omega, by omega⟩
  refine ⟨?_, Int32.toNatClampNeg_ofInt_of_le (by omega) (by omega)⟩
  rw [Int32.lt_iff_toInt_lt, x_ti hr]
  show ¬ z < 0
  omega
/-! One instruction: from the machine in whole numbers to the abstract one -/
theorem x_sound {n : Nat} (hn : n ≤ 3072) {bd : Nat × Nat} {Cl : x_C} {Cl' : am_C} {Q : x_Q} {Q' : am_Q} {K : x_K} {K' : am_K} {i : Instr} {pc : Nat} {ls st : List x_V} {w : x_W}
    (hC : ∀ (m : Nat) (as : List x_V) (w : x_W) (q : x_Q) (q' : am_Q), Cl m as w q → (∀ v w', q v w' → q' (v.map x_cV) (x_cW n w')) → Cl' m (as.map x_cV) (x_cW n w) q')
    (hK : ∀ pc ls st w, K pc ls st w → K' pc (ls.map x_cV) (st.map x_cV) (x_cW n w)) (hQ : ∀ v w, Q v w → Q' (v.map x_cV) (x_cW n w))
    (hs : x_stp n Cl Q K i pc ls st w) : am_stp Cl' bd Q' K' i pc (ls.map x_cV) (st.map x_cV) (x_cW n w) := by
  have kI : ∀ {pc : Nat} {ls r : List x_V} {w : x_W} {z : Int} {v : Int32}, Int32.ofInt z = v → K pc ls (.inl z :: r) w → K' pc (ls.map x_cV) (.int v :: r.map x_cV) (x_cW n w) := by
    intro pc ls r w z v e h
    subst e
    exact hK _ _ _ _ h
  have kL : ∀ {pc : Nat} {ls r : List x_V} {w : x_W} {z : Int} {v : Int64}, Int64.ofInt z = v → K pc ls (x_l z :: r) w → K' pc (ls.map x_cV) (.long v :: r.map x_cV) (x_cW n w) := by
    intro pc ls r w z v e h
    subst e
    exact hK _ _ _ _ h
  have kS : ∀ {pc k : Nat} {ls r : List x_V} {w : x_W} {v : x_V}, K pc (x_set ls k v) r w → K' pc (am_set (ls.map x_cV) k (x_cV v)) (r.map x_cV) (x_cW n w) := by
    intro pc k ls r w v h
    rw [← x_set_am]
    exact hK _ _ _ _ h
  have kU : ∀ {pc a k : Nat} {ls r : List x_V} {v : Int}, K pc ls r (x_u w.1 a k v, w.2) → K' pc (ls.map x_cV) (r.map x_cV) (am_sI (x_cW n w) (am_u (x_cW n w).2.1 a k (Int32.ofInt v))) := by
    intro pc a k ls r v h
    have := hK _ _ _ _ h
    have e2 : x_cW n (x_u w.1 a k v, w.2) = am_sI (x_cW n w) (am_u (x_cW n w).2.1 a k (Int32.ofInt v)) := by
      show (x_sh n, x_cI (x_u w.1 a k v), x_cL w.2.1, x_R w.2.2.1 w.2.2.2, 204, 0, 0) = (x_sh n, am_u (x_cI w.1) a k (Int32.ofInt v), x_cL w.2.1, x_R w.2.2.1 w.2.2.2, 204, 0, 0)
      rw [x_u_I]
    rw [e2] at this
    exact this
  have z0 : x_rg 0 := ⟨by decide, by decide⟩
  cases i
  case sipush v =>
    exact hK _ _ _ _ hs
  case bipush v =>
    exact hK _ _ _ _ hs
  case aconst_null =>
    exact hK _ _ _ _ hs
  case ldc a =>
    exact hK _ _ _ _ hs
  case getstatic a =>
    exact hK _ _ _ _ hs
  case goto t =>
    exact hK _ _ _ _ hs
  case iload k =>
    show (match am_nth (ls.map x_cV) k with | .int x => K' (pc + 1) (ls.map x_cV) (.int x :: st.map x_cV) (x_cW n w) | _ => False)
    rw [x_nth_am]
    unfold x_stp at hs
    dsimp only at hs
    split at hs
    · rename_i x hx
      rw [hx]
      exact hK _ _ _ _ hs
    · exact hs.elim
  case lload k =>
    show (match am_nth (ls.map x_cV) k with | .long x => K' (pc + 1) (ls.map x_cV) (.long x :: st.map x_cV) (x_cW n w) | _ => False)
    rw [x_nth_am]
    unfold x_stp at hs
    dsimp only at hs
    split at hs
    · rename_i x hx
      rw [hx]
      exact hK _ _ _ _ hs
    · exact hs.elim
  case aload k =>
    show (match am_nth (ls.map x_cV) k with | .ref x => K' (pc + 1) (ls.map x_cV) (.ref x :: st.map x_cV) (x_cW n w) | _ => False)
    rw [x_nth_am]
    unfold x_stp at hs
    dsimp only at hs
    split at hs
    · rename_i x hx
      rw [hx]
      exact hK _ _ _ _ hs
    · exact hs.elim
  case istore k =>
    refine x_pi_am hs fun x r h => ?_
    rw [x_okst_am]
    cases e : x_okst ls k with
    | true => rw [e, cond_true] at h; exact kS h
    | false => rw [e, cond_false] at h; exact h.elim
  case astore k =>
    refine x_pr_am hs fun x r h => ?_
    rw [x_okst_am]
    cases e : x_okst ls k with
    | true => rw [e, cond_true] at h; exact kS h
    | false => rw [e, cond_false] at h; exact h.elim
  case lstore k =>
    refine x_pl_am hs fun x r h => ?_
    rw [x_okst_am, x_inr_am]
    cases e : x_okst ls k && x_inr ls (k + 1) with
    | true =>
      rw [e, cond_true] at h
      have := kS h
      rw [x_set_am] at this
      exact this
    | false => rw [e, cond_false] at h; exact h.elim
  case iinc k c =>
    show (match am_nth (ls.map x_cV) k with | .int x => bif am_prv (ls.map x_cV) k then K' (pc + 1) (am_set (ls.map x_cV) k (.int (x + Int32.ofInt c))) (st.map x_cV) (x_cW n w) else False | _ => False)
    rw [x_nth_am, x_prv_am]
    unfold x_stp at hs
    dsimp only at hs
    split at hs
    · rename_i x hx
      rw [hx]
      show (bif x_prv ls k then K' (pc + 1) (am_set (ls.map x_cV) k (.int (Int32.ofInt x + Int32.ofInt c))) (st.map x_cV) (x_cW n w) else False)
      cases e : x_prv ls k with
      | true =>
        rw [e, cond_true] at hs
        have := kS hs
        rw [← Int32.ofInt_add]
        exact this
      | false => rw [e, cond_false] at hs; exact hs.elim
    · exact hs.elim
  case iadd =>
    exact x_pi_am hs fun y r h => x_pi_am h fun x r h => kI (Int32.ofInt_add x y) h
  case isub =>
    exact x_pi_am hs fun y r h => x_pi_am h fun x r h => kI (Int32.ofInt_sub x y) h
  case imul =>
    exact x_pi_am hs fun y r h => x_pi_am h fun x r h => kI (Int32.ofInt_mul x y) h
  case iand =>
    exact x_pi_am hs fun y r h => x_pi_am h fun x r h => kI ((Int32.ofInt_toInt _)) h
  case ior =>
    exact x_pi_am hs fun y r h => x_pi_am h fun x r h => kI ((Int32.ofInt_toInt _)) h
  case ixor =>
    exact x_pi_am hs fun y r h => x_pi_am h fun x r h => kI ((Int32.ofInt_toInt _)) h
  case ishl =>
    exact x_pi_am hs fun y r h => x_pi_am h fun x r h => kI ((Int32.ofInt_toInt _)) h
  case ishr =>
    exact x_pi_am hs fun y r h => x_pi_am h fun x r h => kI ((Int32.ofInt_toInt _)) h
  case iushr =>
    exact x_pi_am hs fun y r h => x_pi_am h fun x r h => kI ((Int32.ofInt_toInt _)) h
  case ladd =>
    exact x_pl_am hs fun y r h => x_pl_am h fun x r h => kL (Int64.ofInt_add x y) h
  case lsub =>
    exact x_pl_am hs fun y r h => x_pl_am h fun x r h => kL (Int64.ofInt_sub x y) h
  case lmul =>
    exact x_pl_am hs fun y r h => x_pl_am h fun x r h => kL (Int64.ofInt_mul x y) h
  case land =>
    exact x_pl_am hs fun y r h => x_pl_am h fun x r h => kL (Int64.ofInt_toInt _) h
  case lor =>
    exact x_pl_am hs fun y r h => x_pl_am h fun x r h => kL (Int64.ofInt_toInt _) h
  case lshl =>
    exact x_pi_am hs fun y r h => x_pl_am h fun x r h => kL (Int64.ofInt_toInt _) h
  case lushr =>
    exact x_pi_am hs fun y r h => x_pl_am h fun x r h => kL (Int64.ofInt_toInt _) h
  case idiv =>
    exact x_pi_am hs fun y r h => x_pi_am h fun x r h => ⟨x_ne0 h.1.2.1 h.1.2.2, kI (x_div h.1.1 h.1.2.1) h.2⟩
  case irem =>
    exact x_pi_am hs fun y r h => x_pi_am h fun x r h => ⟨x_ne0 h.1.2.1 h.1.2.2, kI (x_rem h.1.1 h.1.2.1) h.2⟩
  case ldiv =>
    exact x_pl_am hs fun y r h => x_pl_am h fun x r h => ⟨x_ne0L h.1.2.1 h.1.2.2, kL (x_divL h.1.1 h.1.2.1) h.2⟩
  case lrem =>
    exact x_pl_am hs fun y r h => x_pl_am h fun x r h => ⟨x_ne0L h.1.2.1 h.1.2.2, kL (x_remL h.1.1 h.1.2.1) h.2⟩
  case lcmp =>
    exact x_pl_am hs fun y r h => x_pl_am h fun x r h => kI (x_cmpL h.1.1 h.1.2) h.2
  case i2l =>
    exact x_pi_am hs fun x r h => kL (Int32.toInt64_ofInt h.1.1 h.1.2).symm h.2
  case l2i =>
    exact x_pl_am hs fun x r h => kI (Int64.toInt32_ofInt).symm h
  case i2c =>
    exact x_pi_am hs fun x r h => kI (x_i2c x) h
  case i2b =>
    exact x_pi_am hs fun x r h => kI (x_bm x) h
  case dup =>
    have h0 : x_p1 st (fun v r => K (pc + 1) ls (v :: v :: r) w) := hs
    show am_p1 (st.map x_cV) (fun v r => K' (pc + 1) (ls.map x_cV) (v :: v :: r) (x_cW n w))
    exact x_p1_am h0 fun v r h => hK _ _ _ _ h
  case dup2 =>
    have h0 : x_p1 st (fun v r => x_p1 r fun u r => K (pc + 1) ls (v :: u :: v :: u :: r) w) := hs
    show am_p1 (st.map x_cV) (fun v r => am_p1 r fun u r => K' (pc + 1) (ls.map x_cV) (v :: u :: v :: u :: r) (x_cW n w))
    refine x_p1_am h0 fun v r h => ?_
    have h1 : x_p1 r (fun u r => K (pc + 1) ls (v :: u :: v :: u :: r) w) := h
    exact x_p1_am h1 fun u r h => hK _ _ _ _ h
  case pop =>
    have h0 : x_p1 st (fun v r => K (pc + 1) ls r w) := hs
    show am_p1 (st.map x_cV) (fun v r => K' (pc + 1) (ls.map x_cV) r (x_cW n w))
    exact x_p1_am h0 fun v r h => hK _ _ _ _ h
  case ifCond c t =>
    exact x_pi_am hs fun x r h => ⟨fun b => hK _ _ _ _ (h.2.1 (x_b1 h.1 z0 b)), fun b => hK _ _ _ _ (h.2.2 (x_b2 h.1 z0 b))⟩
  case if_icmp c t =>
    exact x_pi_am hs fun y r h => x_pi_am h fun x r h => ⟨fun b => hK _ _ _ _ (h.2.2.1 (x_b1 h.1 h.2.1 b)), fun b => hK _ _ _ _ (h.2.2.2 (x_b2 h.1 h.2.1 b))⟩
  case ifnull t =>
    exact x_pr_am hs fun x r h => ⟨h.1, fun b => hK _ _ _ _ (h.2.1 b), fun b => hK _ _ _ _ (h.2.2 b)⟩
  case ifnonnull t =>
    exact x_pr_am hs fun x r h => ⟨h.1, fun b => hK _ _ _ _ (h.2.1 b), fun b => hK _ _ _ _ (h.2.2 b)⟩
  case tableswitch d lo hi ts =>
    refine x_pi_am hs fun x r h => ?_
    have := x_tab_am (lo := lo) ts.toList lo d h.2
    rw [x_ti h.1]
    exact hK _ _ _ _ this
  case lookupswitch d ps =>
    refine x_pi_am hs fun x r h => ?_
    have := x_lkp_am ps.toList d h.2
    rw [x_ti h.1]
    exact hK _ _ _ _ this
  case getfield q =>
    refine x_pr_am hs fun a r h => ⟨h.1, ?_⟩
    rw [x_fv_am]
    exact hK _ _ _ _ h.2
  case putfield q =>
    show (match q % 4 with
      | 1 => am_pl (st.map x_cV) fun x r => am_pr r fun a r => ((x_cW n w).1 a).1 = q / 256 ∧ K' (pc + 1) (ls.map x_cV) r (am_sL (x_cW n w) (am_u (x_cW n w).2.2.1 a (q / 4 % 64) x))
      | 2 => am_pr (st.map x_cV) fun x r => am_pr r fun a r => ((x_cW n w).1 a).1 = q / 256 ∧ K' (pc + 1) (ls.map x_cV) r (am_sR (x_cW n w) (am_u (x_cW n w).2.2.2.1 a (q / 4 % 64) x))
      | 3 => am_pi (st.map x_cV) fun x r => am_pr r fun a r => ((x_cW n w).1 a).1 = q / 256 ∧ (x = 0 ∨ x = 1) ∧ K' (pc + 1) (ls.map x_cV) r (am_sI (x_cW n w) (am_u (x_cW n w).2.1 a (q / 4 % 64) x))
      | _ => am_pi (st.map x_cV) fun x r => am_pr r fun a r => ((x_cW n w).1 a).1 = q / 256 ∧ K' (pc + 1) (ls.map x_cV) r (am_sI (x_cW n w) (am_u (x_cW n w).2.1 a (q / 4 % 64) x)))
    unfold x_stp at hs
    dsimp only at hs
    generalize q % 4 = m at hs ⊢
    have kk : ∀ {m : Nat}, (x_pi st fun x r => x_pr r fun a r => (x_sh n a).1 = q / 256 ∧ K (pc + 1) ls r (x_u w.1 a (q / 4 % 64) x, w.2)) → am_pi (st.map x_cV) fun x r => am_pr r fun a r => ((x_cW n w).1 a).1 = q / 256 ∧ K' (pc + 1) (ls.map x_cV) r (am_sI (x_cW n w) (am_u (x_cW n w).2.1 a (q / 4 % 64) x)) := fun hs => x_pi_am hs fun x r h => x_pr_am h fun a r h => ⟨h.1, kU h.2⟩
    rcases m with _ | _ | _ | _ | m
    · exact kk (m := 0) hs
    · have h0 : x_pl st fun x r => x_pr r fun a r => (x_sh n a).1 = q / 256 ∧ K (pc + 1) ls r (w.1, x_u w.2.1 a (q / 4 % 64) x, w.2.2) := hs
      show am_pl (st.map x_cV) fun x r => am_pr r fun a r => ((x_cW n w).1 a).1 = q / 256 ∧ K' (pc + 1) (ls.map x_cV) r (am_sL (x_cW n w) (am_u (x_cW n w).2.2.1 a (q / 4 % 64) x))
      refine x_pl_am h0 fun x r h => x_pr_am h fun a r h => ⟨h.1, ?_⟩
      have := hK _ _ _ _ h.2
      have e2 : x_cW n (w.1, x_u w.2.1 a (q / 4 % 64) x, w.2.2) = am_sL (x_cW n w) (am_u (x_cW n w).2.2.1 a (q / 4 % 64) (Int64.ofInt x)) := by
        show (x_sh n, x_cI w.1, x_cL (x_u w.2.1 a (q / 4 % 64) x), x_R w.2.2.1 w.2.2.2, 204, 0, 0) = (x_sh n, x_cI w.1, am_u (x_cL w.2.1) a (q / 4 % 64) (Int64.ofInt x), x_R w.2.2.1 w.2.2.2, 204, 0, 0)
        rw [x_u_L]
      rw [e2] at this
      exact this
    · have h0 : x_pr st fun x r => x_pr r fun a r => (x_sh n a).1 = q / 256 ∧ ((a = 154 ∧ q / 4 % 64 = 2 ∧ K (pc + 1) ls r (w.1, w.2.1, x, w.2.2.2)) ∨ (a = 179 ∧ q / 4 % 64 = 5 ∧ K (pc + 1) ls r (w.1, w.2.1, w.2.2.1, x))) := hs
      show am_pr (st.map x_cV) fun x r => am_pr r fun a r => ((x_cW n w).1 a).1 = q / 256 ∧ K' (pc + 1) (ls.map x_cV) r (am_sR (x_cW n w) (am_u (x_cW n w).2.2.2.1 a (q / 4 % 64) x))
      refine x_pr_am h0 fun x r h => x_pr_am h fun a r h => ⟨h.1, ?_⟩
      rcases h.2 with ⟨e1, e3, h⟩ | ⟨e1, e3, h⟩
      · rw [e1, e3]
        have := hK _ _ _ _ h
        have e2 : x_cW n (w.1, w.2.1, x, w.2.2.2) = am_sR (x_cW n w) (am_u (x_cW n w).2.2.2.1 154 2 x) := by
          show (x_sh n, x_cI w.1, x_cL w.2.1, x_R x w.2.2.2, 204, 0, 0) = (x_sh n, x_cI w.1, x_cL w.2.1, am_u (x_R w.2.2.1 w.2.2.2) 154 2 x, 204, 0, 0)
          rw [← x_R_lp]
        rw [e2] at this
        exact this
      · rw [e1, e3]
        have := hK _ _ _ _ h
        have e2 : x_cW n (w.1, w.2.1, w.2.2.1, x) = am_sR (x_cW n w) (am_u (x_cW n w).2.2.2.1 179 5 x) := by
          show (x_sh n, x_cI w.1, x_cL w.2.1, x_R w.2.2.1 x, 204, 0, 0) = (x_sh n, x_cI w.1, x_cL w.2.1, am_u (x_R w.2.2.1 w.2.2.2) 179 5 x, 204, 0, 0)
          rw [← x_R_tp]
        rw [e2] at this
        exact this
    · have h0 : x_pi st fun x r => x_pr r fun a r => (x_sh n a).1 = q / 256 ∧ (x = 0 ∨ x = 1) ∧ K (pc + 1) ls r (x_u w.1 a (q / 4 % 64) x, w.2) := hs
      show am_pi (st.map x_cV) fun x r => am_pr r fun a r => ((x_cW n w).1 a).1 = q / 256 ∧ (x = 0 ∨ x = 1) ∧ K' (pc + 1) (ls.map x_cV) r (am_sI (x_cW n w) (am_u (x_cW n w).2.1 a (q / 4 % 64) x))
      refine x_pi_am h0 fun x r h => x_pr_am h fun a r h => ⟨h.1, ?_, kU h.2.2⟩
      rcases h.2.1 with e | e
      · exact Or.inl (by rw [e]; rfl)
      · exact Or.inr (by rw [e]; rfl)
    · exact kk (m := m) hs
  case iaload =>
    refine x_pi_am hs fun i r h => x_pr_am h fun a r h => ?_
    obtain ⟨h1, h2⟩ := x_vp h.2.1 (x_shz hn a)
    refine ⟨⟨h.1, h1⟩, ?_⟩
    rw [h2]
    exact hK _ _ _ _ h.2.2
  case saload =>
    refine x_pi_am hs fun i r h => x_pr_am h fun a r h => ?_
    obtain ⟨h1, h2⟩ := x_vp h.2.1 (x_shz hn a)
    refine ⟨⟨h.1, h1⟩, ?_⟩
    rw [h2]
    exact hK _ _ _ _ h.2.2
  case laload =>
    refine x_pi_am hs fun i r h => x_pr_am h fun a r h => ?_
    obtain ⟨h1, h2⟩ := x_vp h.2.1 (x_shz hn a)
    refine ⟨⟨h.1, h1⟩, ?_⟩
    rw [h2]
    exact hK _ _ _ _ h.2.2
  case baload =>
    refine x_pi_am hs fun i r h => x_pr_am h fun a r h => ?_
    obtain ⟨h1, h2⟩ := x_vp h.2.1 (x_shz hn a)
    refine ⟨⟨x_kbo h.1, h1⟩, ?_⟩
    rw [h2]
    exact hK _ _ _ _ h.2.2
  case aaload =>
    refine x_pi_am hs fun i r h => x_pr_am h fun a r h => ?_
    obtain ⟨h1, h2⟩ := x_vp h.2.1 (x_shz hn a)
    refine ⟨⟨x_kao h.1, h1⟩, ?_⟩
    rw [h2]
    exact hK _ _ _ _ h.2.2
  case iastore =>
    refine x_pi_am hs fun x r h => x_pi_am h fun i r h => x_pr_am h fun a r h => ?_
    obtain ⟨h1, h2⟩ := x_vp h.2.1 (x_shz hn a)
    refine ⟨⟨h.1, h1⟩, ?_⟩
    rw [h2]
    exact kU h.2.2
  case lastore =>
    refine x_pl_am hs fun x r h => x_pi_am h fun i r h => x_pr_am h fun a r h => ?_
    obtain ⟨h1, h2⟩ := x_vp h.2.1 (x_shz hn a)
    refine ⟨⟨h.1, h1⟩, ?_⟩
    rw [h2]
    have := hK _ _ _ _ h.2.2
    have e2 : x_cW n (w.1, x_u w.2.1 a i.toNat x, w.2.2) = am_sL (x_cW n w) (am_u (x_cW n w).2.2.1 a i.toNat (Int64.ofInt x)) := by
      show (x_sh n, x_cI w.1, x_cL (x_u w.2.1 a i.toNat x), x_R w.2.2.1 w.2.2.2, 204, 0, 0) = (x_sh n, x_cI w.1, am_u (x_cL w.2.1) a i.toNat (Int64.ofInt x), x_R w.2.2.1 w.2.2.2, 204, 0, 0)
      rw [x_u_L]
    rw [e2] at this
    exact this
  case bastore =>
    refine x_pi_am hs fun x r h => x_pi_am h fun i r h => x_pr_am h fun a r h => ?_
    rcases h with h | h
    · obtain ⟨h1, h2⟩ := x_vp h.2.1 (x_shz hn a)
      refine Or.inl ⟨⟨h.1, h1⟩, ?_⟩
      rw [h2, ← x_bm]
      exact kU h.2.2
    · obtain ⟨h1, h2⟩ := x_vp h.2.1 (x_shz hn a)
      refine Or.inr ⟨⟨h.1, h1⟩, ?_, ?_⟩
      · rcases h.2.2.1 with e | e
        · exact Or.inl (by rw [e]; rfl)
        · exact Or.inr (by rw [e]; rfl)
      · rw [h2]
        exact kU h.2.2.2
  case arraylength =>
    exact x_pr_am hs fun a r h => ⟨x_klo h.1, kI Int32.ofInt_eq_ofNat h.2⟩
  case invokevirtual q =>
    refine x_tk_am (q / 128 % 16) st [] _ _ hs (fun as r h => ?_)
    split at h
    · rename_i a l
      refine ⟨h.1, ?_⟩
      rw [x_cat_am]
      have h := h.2
      cases e : Nat.ble (x_cat r) 8 with
      | true =>
        rw [e, cond_true] at h
        have hc : Cl' (q / 2048) ((x_r a :: l).map x_cV) (x_cW n w) (fun v w' => K' (pc + 1) (ls.map x_cV) (v ++ r.map x_cV) (am_zc w' 0 0)) := by
          refine hC _ _ _ _ _ h (fun v w' hv => ?_)
          have := hK _ _ _ _ hv
          rw [List.map_append] at this
          exact this
        exact hc
      | false => rw [e, cond_false] at h; exact h.elim
    · exact h.elim
  case invokestatic q =>
    refine x_tk_am (q / 128 % 16) st [] _ _ hs (fun as r h => ?_)
    rw [x_cat_am]
    cases e0 : Nat.beq (q / 2048) 0 with
    | true => rw [e0, cond_true] at h; exact h.elim
    | false =>
      rw [e0, cond_false] at h
      cases e : Nat.ble (x_cat r) 8 with
      | true =>
        rw [e, cond_true] at h
        have hc : Cl' (q / 2048) (as.map x_cV) (x_cW n w) (fun v w' => K' (pc + 1) (ls.map x_cV) (v ++ r.map x_cV) (am_zc w' 0 0)) := by
          refine hC _ _ _ _ _ h (fun v w' hv => ?_)
          have := hK _ _ _ _ hv
          rw [List.map_append] at this
          exact this
        exact hc
      | false => rw [e, cond_false] at h; exact h.elim
  case dmul =>
    refine x_pi_am hs fun y r h => x_pi_am h fun x r h => ?_
    rw [x_cat_am]
    have h2 := h.2
    cases e : Nat.ble (x_cat r) 8 with
    | true => rw [e, cond_true] at h2; exact kI (x_min h.1.1 h.1.2) h2
    | false => rw [e, cond_false] at h2; exact h2.elim
  case dadd =>
    refine x_pi_am hs fun y r h => x_pi_am h fun x r h => ?_
    rw [x_cat_am]
    have h2 := h.2
    cases e : Nat.ble (x_cat r) 8 with
    | true => rw [e, cond_true] at h2; exact kI (x_max h.1.1 h.1.2) h2
    | false => rw [e, cond_false] at h2; exact h2.elim
  case dneg =>
    refine x_pi_am hs fun x r h => ?_
    rw [x_cat_am]
    have h2 := h.2
    cases e : Nat.ble (x_cat r) 8 with
    | true => rw [e, cond_true] at h2; exact kI (x_abs h.1) h2
    | false => rw [e, cond_false] at h2; exact h2.elim
  case fmul =>
    refine x_pl_am hs fun y r h => x_pl_am h fun x r h => ?_
    rw [x_cat_am]
    have h2 := h.2
    cases e : Nat.ble (x_cat r) 8 with
    | true => rw [e, cond_true] at h2; exact kL (x_minL h.1.1 h.1.2) h2
    | false => rw [e, cond_false] at h2; exact h2.elim
  case fadd =>
    refine x_pl_am hs fun y r h => x_pl_am h fun x r h => ?_
    rw [x_cat_am]
    have h2 := h.2
    cases e : Nat.ble (x_cat r) 8 with
    | true => rw [e, cond_true] at h2; exact kL (x_maxL h.1.1 h.1.2) h2
    | false => rw [e, cond_false] at h2; exact h2.elim
  case drem =>
    refine x_pi_am hs fun y r h => x_pi_am h fun x r h => ⟨x_ne0 h.1.2.1 (by have := h.1.2.2; omega), ?_⟩
    rw [x_cat_am]
    have h2 := h.2
    cases e : Nat.ble (x_cat r) 8 with
    | true => rw [e, cond_true] at h2; exact kI (x_fm h.1.1 h.1.2.1 h.1.2.2) h2
    | false => rw [e, cond_false] at h2; exact h2.elim
  case frem =>
    refine x_pi_am hs fun k r h => x_pi_am h fun dp r h => x_pr_am h fun a r h => x_pi_am h fun sp r h => x_pr_am h fun a0 r h => ?_
    rw [x_cat_am]
    cases e : Nat.ble (x_cat r) 8 with
    | true =>
      rw [e, cond_true] at h
      have hz := x_shz hn a
      have hz0 := x_shz hn a0
      obtain ⟨⟨g1, g2⟩, ⟨⟨g3, g4, g5⟩, g6, g7⟩, h⟩ := h
      obtain ⟨s1, s2⟩ := x_nn (z := sp) g3 (by omega)
      obtain ⟨d1, d2⟩ := x_nn (z := dp) g4 (by omega)
      obtain ⟨k1, k2⟩ := x_nn (z := k) g5 (by omega)
      refine ⟨⟨g1, g2⟩, ⟨s1, d1, k1, ?_, ?_⟩, ?_⟩
      · rw [s2, k2]
        show _ ≤ (x_sh n a0).2
        omega
      · rw [d2, k2]
        show _ ≤ (x_sh n a).2
        omega
      · rw [s2, d2, k2]
        have := hK _ _ _ _ h
        have e2 : x_cW n (x_cp w.1 a0 a sp.toNat dp.toNat k.toNat, w.2) = am_sI (x_cW n w) (am_cpI (x_cW n w).2.1 a0 a sp.toNat dp.toNat k.toNat) := by
          show (x_sh n, x_cI (x_cp w.1 a0 a sp.toNat dp.toNat k.toNat), x_cL w.2.1, x_R w.2.2.1 w.2.2.2, 204, 0, 0) = (x_sh n, am_cpI (x_cI w.1) a0 a sp.toNat dp.toNat k.toNat, x_cL w.2.1, x_R w.2.2.1 w.2.2.2, 204, 0, 0)
          rw [x_cp_I]
        rw [e2] at this
        exact this
    | false => rw [e, cond_false] at h; exact h.elim
  case fdiv =>
    refine x_pi_am hs fun k r h => x_pi_am h fun dp r h => x_pr_am h fun a r h => x_pi_am h fun sp r h => x_pr_am h fun a0 r h => ?_
    rw [x_cat_am]
    cases e : Nat.ble (x_cat r) 8 with
    | true =>
      rw [e, cond_true] at h
      have hz := x_shz hn a
      have hz0 := x_shz hn a0
      obtain ⟨⟨g1, g2⟩, ⟨⟨g3, g4, g5⟩, g6, g7⟩, h⟩ := h
      obtain ⟨s1, s2⟩ := x_nn (z := sp) g3 (by omega)
      obtain ⟨d1, d2⟩ := x_nn (z := dp) g4 (by omega)
      obtain ⟨k1, k2⟩ := x_nn (z := k) g5 (by omega)
      refine ⟨⟨g1, g2⟩, ⟨s1, d1, k1, ?_, ?_⟩, ?_⟩
      · rw [s2, k2]
        show _ ≤ (x_sh n a0).2
        omega
      · rw [d2, k2]
        show _ ≤ (x_sh n a).2
        omega
      · rw [s2, d2, k2]
        have := hK _ _ _ _ h
        have e2 : x_cW n (x_cp w.1 a0 a sp.toNat dp.toNat k.toNat, w.2) = am_sI (x_cW n w) (am_cpI (x_cW n w).2.1 a0 a sp.toNat dp.toNat k.toNat) := by
          show (x_sh n, x_cI (x_cp w.1 a0 a sp.toNat dp.toNat k.toNat), x_cL w.2.1, x_R w.2.2.1 w.2.2.2, 204, 0, 0) = (x_sh n, am_cpI (x_cI w.1) a0 a sp.toNat dp.toNat k.toNat, x_cL w.2.1, x_R w.2.2.1 w.2.2.2, 204, 0, 0)
          rw [x_cp_I]
        rw [e2] at this
        exact this
    | false => rw [e, cond_false] at h; exact h.elim
  case ireturn =>
    unfold x_stp at hs
    dsimp only at hs
    split at hs
    · exact hQ _ _ hs
    · exact hs.elim
  case lreturn =>
    unfold x_stp at hs
    dsimp only at hs
    split at hs
    · exact hQ _ _ hs
    · exact hs.elim
  case areturn =>
    unfold x_stp at hs
    dsimp only at hs
    split at hs
    · exact ⟨hs.1, hQ _ _ hs.2⟩
    · exact hs.elim
  case return_ =>
    unfold x_stp at hs
    dsimp only at hs
    split at hs
    · exact hQ _ _ hs
    · exact hs.elim
  case ret t =>
    unfold x_stp at hs
    dsimp only at hs
    split at hs
    · rename_i x
      refine ⟨?_, hQ _ _ hs.2⟩
      have h := hs.1
      split at h
      · rcases h with e | e
        · exact Or.inl (by rw [e]; rfl)
        · exact Or.inr (by rw [e]; rfl)
      · show ((Int32.ofInt x).toUInt32 % 65536).toInt32 = Int32.ofInt x
        rw [← x_i2c]
        congr 1
        omega
      · split
        · contradiction
        · contradiction
        · rw [← x_bm]
          congr 1
          rw [Int.bmod_def]
          omega
    · exact hs.elim
  all_goals exact False.elim hs
