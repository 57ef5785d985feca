/-! multianewarray: the world of a new table of rows -/
theorem am_wl_at {Γ : am_G} {w : am_W} {k : Nat} {q : Nat × va_E} (h : (am_wl Γ w)[k]? = some q) : k < w.2.2.2.2.1 - 1 ∧ q = (Γ.2.2.1 + (k + 1), am_cell Γ w (k + 1)) := by
  have hk : k < (am_wl Γ w).length := (List.getElem?_eq_some_iff.mp h).1
  rw [am_wl_len] at hk
  have := am_wl_get (Γ := Γ) (w := w) (a := k + 1) (by omega) (by omega)
  rw [show k + 1 - 1 = k by omega] at this
  rw [this] at h
  exact ⟨hk, (Option.some.inj h).symm⟩
theorem am_rep_mk {Γ : am_G} {w : am_W} {H : Heap} (hwf : am_wf Γ w) (hcell : ∀ a, 1 ≤ a → a < w.2.2.2.2.1 → va_at Γ.1 am_cls (Γ.2.2.1 + a, am_cell Γ w a) H) (hz : H.size = Γ.2.2.1 + w.2.2.2.2.1) : am_rep Γ w H := by
  refine ⟨hwf, fun k q hq => ?_, ⟨fun i j p q hp hq e => ?_, fun k q hq => ?_⟩, by omega, fun _ => hz⟩
  · obtain ⟨h1, rfl⟩ := am_wl_at hq
    exact hcell (k + 1) (by omega) (by omega)
  · obtain ⟨h1, rfl⟩ := am_wl_at hp
    obtain ⟨h2, rfl⟩ := am_wl_at hq
    dsimp only at e
    omega
  · obtain ⟨h1, rfl⟩ := am_wl_at hq
    show Γ.2.2.1 + 1 ≤ Γ.2.2.1 + (k + 1)
    omega
def am_w5 (w : am_W) : am_W := am_sR (am_rows (am_new w 106 4) 8 4) (fun b j => if b = w.2.2.2.2.1 then (if j < 4 then w.2.2.2.2.1 + 1 + j else 0) else (am_rows (am_new w 106 4) 8 4).2.2.2.1 b j)
theorem am_w5_1 (w : am_W) (a : Nat) : (am_w5 w).1 a = if a = w.2.2.2.2.1 + 4 then (100, 8) else if a = w.2.2.2.2.1 + 3 then (100, 8) else if a = w.2.2.2.2.1 + 2 then (100, 8) else if a = w.2.2.2.2.1 + 1 then (100, 8) else if a = w.2.2.2.2.1 then (106, 4) else w.1 a := rfl
theorem am_w5_I (w : am_W) (a k : Nat) : (am_w5 w).2.1 a k = if a = w.2.2.2.2.1 + 4 then 0 else if a = w.2.2.2.2.1 + 3 then 0 else if a = w.2.2.2.2.1 + 2 then 0 else if a = w.2.2.2.2.1 + 1 then 0 else if a = w.2.2.2.2.1 then 0 else w.2.1 a k := rfl
theorem am_w5_L (w : am_W) (a k : Nat) : (am_w5 w).2.2.1 a k = if a = w.2.2.2.2.1 + 4 then 0 else if a = w.2.2.2.2.1 + 3 then 0 else if a = w.2.2.2.2.1 + 2 then 0 else if a = w.2.2.2.2.1 + 1 then 0 else if a = w.2.2.2.2.1 then 0 else w.2.2.1 a k := rfl
theorem am_w5_R (w : am_W) (a k : Nat) : (am_w5 w).2.2.2.1 a k = if a = w.2.2.2.2.1 then (if k < 4 then w.2.2.2.2.1 + 1 + k else 0) else if a = w.2.2.2.2.1 + 4 then 0 else if a = w.2.2.2.2.1 + 3 then 0 else if a = w.2.2.2.2.1 + 2 then 0 else if a = w.2.2.2.2.1 + 1 then 0 else if a = w.2.2.2.2.1 then 0 else w.2.2.2.1 a k := rfl
theorem am_w5_n (w : am_W) : (am_w5 w).2.2.2.2.1 = w.2.2.2.2.1 + 5 := rfl
theorem am_w5_old {Γ : am_G} {w : am_W} {a : Nat} (h : a < w.2.2.2.2.1 ∨ w.2.2.2.2.1 + 5 ≤ a) : (am_w5 w).1 a = w.1 a ∧ (∀ k, (am_w5 w).2.1 a k = w.2.1 a k) ∧ (∀ k, (am_w5 w).2.2.1 a k = w.2.2.1 a k) ∧ (∀ k, (am_w5 w).2.2.2.1 a k = w.2.2.2.1 a k) := by
  refine ⟨?_, fun k => ?_, fun k => ?_, fun k => ?_⟩
  · rw [am_w5_1, if_neg (by omega), if_neg (by omega), if_neg (by omega), if_neg (by omega), if_neg (by omega)]
  · rw [am_w5_I, if_neg (by omega), if_neg (by omega), if_neg (by omega), if_neg (by omega), if_neg (by omega)]
  · rw [am_w5_L, if_neg (by omega), if_neg (by omega), if_neg (by omega), if_neg (by omega), if_neg (by omega)]
  · rw [am_w5_R, if_neg (by omega), if_neg (by omega), if_neg (by omega), if_neg (by omega), if_neg (by omega), if_neg (by omega)]
theorem am_cell_eq {Γ : am_G} {w w' : am_W} {a : Nat} (h1 : w'.1 a = w.1 a) (h2 : ∀ k, w'.2.1 a k = w.2.1 a k) (h3 : ∀ k, w'.2.2.1 a k = w.2.2.1 a k) (h4 : ∀ k, w'.2.2.2.1 a k = w.2.2.2.1 a k) : am_cell Γ w' a = am_cell Γ w a := by
  have e2 : w'.2.1 a = w.2.1 a := funext h2
  have e3 : w'.2.2.1 a = w.2.2.1 a := funext h3
  have e5 : ∀ kk k, am_fv w' kk a k = am_fv w kk a k := by
    intro kk k
    unfold am_fv
    rw [h2, h3, h4]
  unfold am_cell am_fs am_ar
  simp only [e5, h1, e2, e3, h4]
theorem am_w5_wf {Γ : am_G} {w : am_W} (hw : am_wf Γ w) (hN : w.2.2.2.2.1 + 4 < 204) : am_wf Γ (am_w5 w) := by
  obtain ⟨h1, h2, h3, h4⟩ := hw
  refine ⟨fun a ha => ?_, by rw [am_w5_n]; omega, fun a g1 g2 => ?_, fun a ha => ?_⟩
  · rw [am_w5_n] at ha
    rw [(am_w5_old (Γ := Γ) (by omega)).1]
    exact h1 a (by omega)
  · rw [am_w5_n] at g2
    by_cases c : a < w.2.2.2.2.1
    · obtain ⟨e1, e2, e3, e4⟩ := am_w5_old (Γ := Γ) (Or.inl c)
      rw [e1]
      rcases h3 a g1 c with g | ⟨g3, g4, g5⟩
      · exact Or.inl g
      · exact Or.inr ⟨g3, g4, fun g6 j => by rw [e4]; exact g5 g6 j⟩
    · by_cases c0 : a = w.2.2.2.2.1
      · have es : (am_w5 w).1 a = (106, 4) := by rw [am_w5_1, if_neg (by omega), if_neg (by omega), if_neg (by omega), if_neg (by omega), if_pos c0]
        rw [es]
        refine Or.inr ⟨by decide, by decide, fun _ j => ?_⟩
        rw [am_w5_R, if_pos c0]
        by_cases cj : j < 4
        · rw [if_pos cj]; omega
        · rw [if_neg cj]; decide
      · have es : (am_w5 w).1 a = (100, 8) := by
          rw [am_w5_1]
          by_cases c4 : a = w.2.2.2.2.1 + 4
          · rw [if_pos c4]
          · rw [if_neg c4]
            by_cases c3 : a = w.2.2.2.2.1 + 3
            · rw [if_pos c3]
            · rw [if_neg c3]
              by_cases c2 : a = w.2.2.2.2.1 + 2
              · rw [if_pos c2]
              · rw [if_neg c2, if_pos (by omega)]
        rw [es]
        exact Or.inr ⟨by decide, by decide, fun g => absurd g (by decide)⟩
  · obtain ⟨e1, e2, e3, e4⟩ := am_w5_old (Γ := Γ) (w := w) (a := a) (by omega)
    rw [e1]
    obtain ⟨g1, g2, g3⟩ := h4 a ha
    exact ⟨g1, fun j => by rw [e2]; exact g2 j, fun k => by rw [e4]; exact g3 k⟩
theorem am_w5_rep {Γ : am_G} {w : am_W} {H H1 : Heap} (hr : am_rep Γ w H) (hN : w.2.2.2.2.1 + 4 < 204) (hz : H1.size = H.size + 5) (ho : ∀ q : Nat, q < H.size → H1[q]? = H[q]?) (h0 : H1[H.size]? = some (arrV (Γ.2.1 106) 4 (fun j => if j < 4 then .ref (H.size + 1 + j) else .null))) (h1 : ∀ j : Nat, j < 4 → H1[H.size + 1 + j]? = some (arrV (Γ.2.1 100) 8 (fun _ => .int 0))) : am_rep Γ (am_w5 w) H1 := by
  have hsz := hr.2.2.2.2 (by omega)
  have hw1 := hr.1.2.1.1
  refine am_rep_mk (am_w5_wf hr.1 hN) (fun a g1 g2 => ?_) (by rw [am_w5_n]; omega)
  rw [am_w5_n] at g2
  by_cases c : a < w.2.2.2.2.1
  · obtain ⟨e1, e2, e3, e4⟩ := am_w5_old (Γ := Γ) (Or.inl c)
    rw [am_cell_eq e1 e2 e3 e4]
    exact (hr.2.1 (a - 1) _ (am_wl_get g1 c)).kept (ho (Γ.2.2.1 + a) (by omega))
  · by_cases c0 : a = w.2.2.2.2.1
    · have es : (am_w5 w).1 a = (106, 4) := by rw [am_w5_1, if_neg (by omega), if_neg (by omega), if_neg (by omega), if_neg (by omega), if_pos c0]
      have ea : am_ar Γ (am_w5 w) a = .inr (.inr (.inr (.inr (fun j => if j < 4 then some (H.size + 1 + j) else none)))) := by
        unfold am_ar
        rw [es]
        refine congrArg (fun f => Sum.inr (Sum.inr (Sum.inr (Sum.inr f)))) (funext fun j => ?_)
        rw [am_w5_R, if_pos c0]
        unfold am_rq
        by_cases cj : j < 4
        · rw [if_pos cj, if_pos cj, if_neg (by omega)]
          exact congrArg some (by omega)
        · rw [if_neg cj, if_neg cj, if_pos rfl]
      unfold am_cell
      rw [es, if_neg (show ¬ 106 < 90 by decide)]
      show H1[Γ.2.2.1 + a]? = some (vp_cell (Γ.2.1 106) (4, am_ar Γ (am_w5 w) a))
      rw [ea, vp_cell_q, c0, ← hsz, h0]
      refine congrArg (fun f => some (arrV (Γ.2.1 106) 4 f)) (funext fun j => ?_)
      by_cases cj : j < 4
      · rw [if_pos cj, if_pos cj]; rfl
      · rw [if_neg cj, if_neg cj]; rfl
    · obtain ⟨j, hj, rfl⟩ : ∃ j, j < 4 ∧ a = w.2.2.2.2.1 + 1 + j := ⟨a - w.2.2.2.2.1 - 1, by omega, by omega⟩
      have es : (am_w5 w).1 (w.2.2.2.2.1 + 1 + j) = (100, 8) := by
        rw [am_w5_1]
        by_cases c4 : w.2.2.2.2.1 + 1 + j = w.2.2.2.2.1 + 4
        · rw [if_pos c4]
        · rw [if_neg c4]
          by_cases c3 : w.2.2.2.2.1 + 1 + j = w.2.2.2.2.1 + 3
          · rw [if_pos c3]
          · rw [if_neg c3]
            by_cases c2 : w.2.2.2.2.1 + 1 + j = w.2.2.2.2.1 + 2
            · rw [if_pos c2]
            · rw [if_neg c2, if_pos (by omega)]
      have ei : ∀ k, (am_w5 w).2.1 (w.2.2.2.2.1 + 1 + j) k = 0 := by
        intro k
        rw [am_w5_I]
        by_cases c4 : w.2.2.2.2.1 + 1 + j = w.2.2.2.2.1 + 4
        · rw [if_pos c4]
        · rw [if_neg c4]
          by_cases c3 : w.2.2.2.2.1 + 1 + j = w.2.2.2.2.1 + 3
          · rw [if_pos c3]
          · rw [if_neg c3]
            by_cases c2 : w.2.2.2.2.1 + 1 + j = w.2.2.2.2.1 + 2
            · rw [if_pos c2]
            · rw [if_neg c2, if_pos (by omega)]
      have ea : am_ar Γ (am_w5 w) (w.2.2.2.2.1 + 1 + j) = .inl (fun _ => 0) := by
        unfold am_ar
        rw [es]
        exact congrArg Sum.inl (funext ei)
      unfold am_cell
      rw [es, if_neg (show ¬ 100 < 90 by decide)]
      show H1[Γ.2.2.1 + (w.2.2.2.2.1 + 1 + j)]? = some (vp_cell (Γ.2.1 100) (8, am_ar Γ (am_w5 w) (w.2.2.2.2.1 + 1 + j)))
      rw [ea, vp_cell_i, show Γ.2.2.1 + (w.2.2.2.2.1 + 1 + j) = H.size + 1 + j by omega, h1 j hj]
theorem am_c_multianewarray {Γ : am_G} {l : Launch} {mid d : Nat} {Q : am_Q} {p : Program} {e : Env} {R : Room} {s : State} {m : MethodId} {args : Array Value} {below : List Frame} {meth : Method} {c : Code} {Z : State → Prop} {K : am_K} {Cl : am_C} {n h : Nat} {ls st : List Value} {w : am_W} {k1 k2 : Nat} (hc : am_cx Γ l mid d Q p e R s m args below meth c Z) (hk : am_ck mid n h (.multianewarray k1 k2)) (hK : ∀ n ls st w, K n ls st w → am_At Γ l mid p e R s m args below meth c Z n ls st w) (hs : am_stp Cl (am_bd mid) Q K (.multianewarray k1 k2) n ls st w) : am_At Γ l mid p e R s m args below meth c Z n ls st w := by
  obtain ⟨hx, hb, hml, hown, hts, henv, hini, hfr, hlo, hbc, hbs, hsz, hret⟩ := hc
  intro H locs lc hr hcn hS hl hln
  simp only [am_ck, am_ck1, Bool.and_eq_true] at hk
  obtain ⟨⟨⟨⟨hd, hn⟩, hm⟩, hty0⟩, -⟩ := hk
  have hd := am_dq_ok hd
  have hn := am_beq hn
  have hcl := hts _ (am_LA_in _ (List.mem_map_of_mem (am_m3_ok hm)))
  unfold am_stp at hs
  dsimp only at hs
  obtain ⟨mm, r1, e1, hs1⟩ := am_pi_ex hs
  subst e1
  obtain ⟨nn, r0, e0, hs0⟩ := am_pi_ex hs1
  subst e0
  by_cases hbu : (Nat.blt (w.2.2.2.2.1 + 4) 204 && (Nat.blt (w.2.2.2.2.2.1 + 4) (am_bd mid).1 && Nat.ble (w.2.2.2.2.2.2 + 36) (am_bd mid).2)) = true
  · rw [hbu, cond_true] at hs0
    simp only [Bool.and_eq_true] at hbu
    obtain ⟨u1, u2, u3⟩ := hbu
    have u1 : w.2.2.2.2.1 + 4 < 204 := Nat.le_of_ble_eq_true u1
    have u2 : w.2.2.2.2.2.1 + 4 < (am_bd mid).1 := Nat.le_of_ble_eq_true u2
    have u3 := Nat.le_of_ble_eq_true u3
    have hsz4 := hr.2.2.2.2 (by omega)
    obtain ⟨⟨rfl, rfl⟩, hsk⟩ := hs0
    intro T hT X
    subst hT
    have hov := henv.2.2.2.2.2.2.2.2
    obtain ⟨T1, cA, comp, hfA, hfC, f1, fo, f2, fi, X1, step⟩ := hov.1 p l e R s m args below meth c T locs _ _ X hx _ _ hown hcl hov.2 (hts _ am_ac_int) (F0 m ((am_ct mid).1.getD n 0) lc (List.map (am_cv Γ) (Value.int 8 :: Value.int 4 :: r0))) rfl (by rw [hb]; exact hd) (r0.map (am_cv Γ)) rfl (by omega) (by omega)
    have ec : cA = Γ.2.1 106 := Option.some.inj (hfA.symm.trans (henv.1.2 6 _ rfl).2)
    have ec2 : comp = Γ.2.1 100 := Option.some.inj (hfC.symm.trans (henv.1.2 0 _ rfl).2)
    subst ec
    subst ec2
    have hqq := hK _ _ _ _ hsk T1.heap locs lc (am_w5_rep hr u1 f1 fo f2 fi) ⟨by show w.2.2.2.2.2.1 + 5 ≤ _; omega, u3⟩ ⟨by have := hS.1; omega, fun x g1 g2 => (fo x (by have := hS.1; omega)).trans (hS.2.1 x g1 g2), hS.2.2⟩ hl hln
    rw [hn] at hqq
    have hqq : W p l e R s m args below meth c T1.heap locs (w.2.2.2.2.2.1 + 5) (w.2.2.2.2.2.2 + 36) Z (F0 m ((am_ct mid).1.getD n 0 + 4) lc (am_cv Γ (.ref w.2.2.2.2.1) :: r0.map (am_cv Γ))) := hqq
    rw [am_cv_own hr.1.2.1.1 (by omega), ← hsz4] at hqq
    obtain ⟨t, a1, b1⟩ := hqq T1 rfl X1
    exact ⟨t, step t a1, b1⟩
  · rw [Bool.eq_false_iff.mpr hbu, cond_false] at hs0
    exact hs0.elim
