theorem am_c_getfield {Γ : am_G} {l : Launch} {mid d : Nat} {Q : am_Q} {p : Program} {e : Env} {R : Room} {s : State} {m : MethodId} {args : Array Value} {below : List Frame} {meth : Method} {c : Code} {Z : State → Prop} {K : am_K} {Cl : am_C} {n h : Nat} {ls st : List Value} {w : am_W} {q : Nat} (hc : am_cx Γ l mid d Q p e R s m args below meth c Z) (hk : am_ck mid n h (.getfield q)) (hK : ∀ n ls st w, K n ls st w → am_At Γ l mid p e R s m args below meth c Z n ls st w) (hs : am_stp Cl (am_bd mid) Q K (.getfield q) n ls st w) : am_At Γ l mid p e R s m args below meth c Z n ls st w := by
  obtain ⟨hx, hb, hml, hown, hts, henv, hini, hfr, hlo, hbc, hbs, hsz, hret⟩ := hc
  intro H locs lc hr hcn hS hl hln
  unfold am_ck am_ck1 at hk
  dsimp only at hk
  simp only [Bool.and_eq_true] at hk
  obtain ⟨⟨hd, hn⟩, hm⟩ := hk
  have hd := am_dq_ok hd
  have hn := am_beq hn
  unfold am_stp at hs
  dsimp only at hs
  obtain ⟨a, r0, e0, hs0⟩ := am_pr_ex hs
  subst e0
  obtain ⟨hsh, hsk⟩ := hs0
  have hq := hK _ _ _ _ hsk H locs lc hr hcn hS hl hln
  rw [hn] at hq
  by_cases h90 : Nat.beq (q / 256) 90 = true
  · rw [h90, cond_true] at hm
    simp only [Bool.and_eq_true] at hm
    obtain ⟨hm, hm2⟩ := hm
    have e90 := am_beq h90
    have hm := am_m3_ok hm
    have hlk := hts _ (am_LFs_in _ (List.mem_map_of_mem hm))
    unfold am_lsw at hlk
    simp only at hlk
    have ha : 5000 ≤ a := by
      rcases Nat.lt_or_ge a 5000 with g | g
      · exfalso
        rcases Nat.eq_zero_or_pos a with z | z
        · have := hr.1.1 a (Or.inl z); omega
        · rcases Nat.lt_or_ge a w.2.2.2.2.1 with y | y
          · rcases hr.1.2.2.1 a z y with ⟨_, y2, _⟩ | ⟨y1, y2, _⟩ <;> omega
          · have := hr.1.1 a (Or.inr ⟨y, g⟩); omega
      · exact g
    obtain ⟨ro1, ro2, ro3⟩ := hr.1.2.2.2 a ha
    rw [ro1] at hsh
    have hsh := hsh.trans e90
    rcases henv.2.1 a ha with g | ⟨g, -⟩ | ⟨g, -⟩ | ⟨-, g5, g6, t, hv, hO, hco, hva⟩
    · omega
    · omega
    · omega
    · show W p l e R s m args below meth c H locs w.2.2.2.2.2.1 w.2.2.2.2.2.2 Z (F0 m ((am_ct mid).1.getD n 0) lc (am_cv Γ (.ref a) :: r0.map (am_cv Γ)))
      rw [am_cv_ro ha, hv]
      rcases (Bool.or_eq_true _ _).mp hm2 with z | z
      · have z := am_beq z
        subst z
        rw [if_pos rfl, if_pos rfl] at hlk
        refine vk_getf hx hb hva hS hown hlk (fun _ h => h) hd ?_
        have hq : W p l e R s m args below meth c H locs w.2.2.2.2.2.1 w.2.2.2.2.2.2 Z (F0 m ((am_ct mid).1.getD n 0 + 3) lc (am_cv Γ (.ref (w.2.2.2.1 a 0)) :: r0.map (am_cv Γ))) := hq
        have e1 : am_roR a 0 = a + 100 := by unfold am_roR; rw [if_pos ⟨g5, g6, rfl⟩]
        rw [ro3 0, e1, am_cv_ro (by omega)] at hq
        exact hq
      · have z := am_beq z
        subst z
        rw [if_neg (by decide), if_neg (by decide)] at hlk
        refine vk_getf hx hb hco hS hown hlk (fun _ h => h) hd ?_
        have hq : W p l e R s m args below meth c H locs w.2.2.2.2.2.1 w.2.2.2.2.2.2 Z (F0 m ((am_ct mid).1.getD n 0 + 3) lc (.int (w.2.1 a 1) :: r0.map (am_cv Γ))) := hq
        rw [ro2 1] at hq
        exact hq
  rw [Bool.eq_false_iff.mpr h90, cond_false] at hm
  have hm := am_m3_ok hm
  have hck := List.all_eq_true.mp am_LF_ok _ hm
  simp only [Bool.and_eq_true] at hck
  obtain ⟨⟨⟨g1, g2⟩, g3⟩, g4⟩ := hck
  have g1 : 0 < q / 256 := Nat.le_of_ble_eq_true g1
  have g2 : q / 256 - 1 < 13 := Nat.le_of_ble_eq_true g2
  have g3 : q / 4 % 64 < am_nf (q / 256 - 1) := Nat.le_of_ble_eq_true g3
  have g4 := am_beq g4
  have hlk := hts _ (am_LF_in _ (List.mem_map_of_mem hm))
  obtain ⟨rc, hrc, hF, hN⟩ := am_cls_get g2
  unfold am_lfw at hlk
  simp only at hlk g4
  rw [hF] at hlk
  obtain ⟨o1, o2, o3, o4, o5⟩ := am_obj hr henv (ci := q / 256 - 1) g2 (by rw [hsh]; omega)
  show W p l e R s m args below meth c H locs w.2.2.2.2.2.1 w.2.2.2.2.2.2 Z (F0 m ((am_ct mid).1.getD n 0) lc (am_cv Γ (.ref a) :: r0.map (am_cv Γ)))
  rw [am_cv_own o1 o3]
  have hv := am_fs_get (Γ := Γ) (w := w) (ci := q / 256 - 1) (a := a) g3
  rw [← g4] at hv
  exact va_get hx hb hts (am_cls_w hrc) hown henv.1 hr.2.1 (a - 1) o5 hrc (q / 4 % 64) (by rw [← hN]; exact g3) hlk (fun _ h => h) hv hd hq

theorem am_Fd0 : ∀ ci, ci < 13 → ∀ k, k < am_nf ci → (am_F ci k).1 = am_Rn ci := by decide +kernel
theorem am_Fdecl (o ci : Nat) {k : Nat} (h : ci < 13) (hk : k < am_nf ci) (ho : o + 1 = ci + 1) : (am_F ci k).1 = am_Rn o := by
  have e : o = ci := by omega
  subst e
  exact am_Fd0 o h k hk
theorem am_up_rep {Γ : am_G} {w w' : am_W} {H H1 : Heap} {a : Nat} (hr : am_rep Γ w H) (h1 : 1 ≤ a) (h2 : a < w.2.2.2.2.1) (hN : w'.2.2.2.2.1 = w.2.2.2.2.1) (hsh : w'.1 = w.1) (hI : ∀ b j, b ≠ a → w'.2.1 b j = w.2.1 b j) (hL : ∀ b j, b ≠ a → w'.2.2.1 b j = w.2.2.1 b j) (hR : ∀ b j, b ≠ a → w'.2.2.2.1 b j = w.2.2.2.1 b j) (hRa : 104 ≤ (w.1 a).1 → ∀ j, w'.2.2.2.1 a j < 5000)
    (hP : va_P Γ.1 am_cls ((am_wl Γ w).set (a - 1) (Γ.2.2.1 + a, am_cell Γ w' a)) H1) (hD : va_D (am_A Γ) ((am_wl Γ w).set (a - 1) (Γ.2.2.1 + a, am_cell Γ w' a))) (hz : w.2.2.2.2.1 < 204 → H1.size = H.size) : am_rep Γ w' H1 := by
  have hN2 := hr.1.2.1.2
  have hcell : ∀ b, b ≠ a → am_cell Γ w' b = am_cell Γ w b := by
    intro b hb
    have e3 : ∀ kd k, am_fv w' kd b k = am_fv w kd b k := by
      intro kd k
      unfold am_fv
      rw [hI b k hb, hL b k hb, hR b k hb]
    unfold am_cell am_fs am_ar
    rw [hsh, show w'.2.2.1 b = w.2.2.1 b from funext fun j => hL b j hb, show w'.2.1 b = w.2.1 b from funext fun j => hI b j hb]
    simp only [e3, hR b _ hb]
  have hwl := am_wl_set (Γ := Γ) h1 h2 hN hcell
  rw [← hwl] at hP hD
  refine ⟨⟨?_, ?_, ?_, ?_⟩, hP, hD, ?_, ?_⟩
  · rw [hsh, hN]; exact hr.1.1
  · rw [hN]; exact hr.1.2.1
  · intro b g1 g2
    rw [hN] at g2
    rw [hsh]
    rcases hr.1.2.2.1 b g1 g2 with g | ⟨g3, g4, g5⟩
    · exact Or.inl g
    · refine Or.inr ⟨g3, g4, fun g6 j => ?_⟩
      by_cases hb : b = a
      · rw [hb]; rw [hb] at g6; exact hRa g6 j
      · rw [hR b j hb]; exact g5 g6 j
  · intro b hb
    have hba : b ≠ a := by omega
    obtain ⟨g1, g2, g3⟩ := hr.1.2.2.2 b hb
    exact ⟨by rw [hsh]; exact g1, fun j => by rw [hI b j hba]; exact g2 j, fun k => by rw [hR b k hba]; exact g3 k⟩
  · exact am_hsize hP (by rw [hN]; omega)
  · intro q
    rw [hN] at q ⊢
    rw [hz q]
    exact hr.2.2.2.2 q
theorem am_u_ne {α : Type} {f : Nat → Nat → α} {a k b j : Nat} {v : α} (h : b ≠ a) : am_u f a k v b j = f b j := by
  unfold am_u
  rw [if_neg h]
theorem am_u_k {α : Type} {f : Nat → Nat → α} {a k j : Nat} {v : α} (h : j ≠ k) : am_u f a k v a j = f a j := by
  unfold am_u
  rw [if_pos rfl, if_neg h]
theorem am_u_s {α : Type} {f : Nat → Nat → α} {a k : Nat} {v : α} : am_u f a k v a k = v := by
  unfold am_u
  rw [if_pos rfl, if_pos rfl]

theorem am_c_putfield {Γ : am_G} {l : Launch} {mid d : Nat} {Q : am_Q} {p : Program} {e : Env} {R : Room} {s : State} {m : MethodId} {args : Array Value} {below : List Frame} {meth : Method} {c : Code} {Z : State → Prop} {K : am_K} {Cl : am_C} {n h : Nat} {ls st : List Value} {w : am_W} {q : Nat} (hc : am_cx Γ l mid d Q p e R s m args below meth c Z) (hk : am_ck mid n h (.putfield q)) (hK : ∀ n ls st w, K n ls st w → am_At Γ l mid p e R s m args below meth c Z n ls st w) (hs : am_stp Cl (am_bd mid) Q K (.putfield q) n ls st w) : am_At Γ l mid p e R s m args below meth c Z n ls st w := by
  obtain ⟨hx, hb, hml, hown, hts, henv, hini, hfr, hlo, hbc, hbs, hsz, hret⟩ := hc
  intro H locs lc hr hcn hS hl hln
  unfold am_ck am_ck1 at hk
  dsimp only at hk
  simp only [Bool.and_eq_true] at hk
  obtain ⟨⟨⟨hd, hn⟩, hm⟩, hfn⟩ := hk
  have hd := am_dq_ok hd
  have hn := am_beq hn
  unfold am_stp at hs
  dsimp only at hs
  have h4 : q % 4 = 0 ∨ q % 4 = 1 ∨ q % 4 = 2 ∨ q % 4 = 3 := by omega
  rcases h4 with hq4 | hq4 | hq4 | hq4 <;> rw [hq4] at hs
  · obtain ⟨x, r0, e0, hs0⟩ := am_pi_ex hs
    subst e0
    obtain ⟨a, r1, e1, hs1⟩ := am_pr_ex hs0
    subst e1
    obtain ⟨hsh, hsk⟩ := hs1
    have hm := am_m3_ok hm
    have hck := List.all_eq_true.mp am_LF_ok _ hm
    simp only [Bool.and_eq_true] at hck
    obtain ⟨⟨⟨g1, g2⟩, g3⟩, g4⟩ := hck
    have g1 : 0 < q / 256 := Nat.le_of_ble_eq_true g1
    have g2 : q / 256 - 1 < 13 := Nat.le_of_ble_eq_true g2
    have g3 : q / 4 % 64 < am_nf (q / 256 - 1) := Nat.le_of_ble_eq_true g3
    have g4 := am_beq g4
    have hlk := hts _ (am_LF_in _ (List.mem_map_of_mem hm))
    obtain ⟨rc, hrc, hF, hN⟩ := am_cls_get g2
    unfold am_lfw at hlk
    simp only at hlk g4
    rw [hF] at hlk
    obtain ⟨o1, o2, o3, o4, o5⟩ := am_obj hr henv (ci := q / 256 - 1) g2 (by rw [hsh]; omega)
    obtain ⟨ht1, ht2⟩ := am_cls_t hrc
    show W p l e R s m args below meth c H locs w.2.2.2.2.2.1 w.2.2.2.2.2.2 Z (F0 m ((am_ct mid).1.getD n 0) lc (.int x :: am_cv Γ (.ref a) :: r1.map (am_cv Γ)))
    rw [am_cv_own o1 o3]
    have hty : am_ty (q / 256 - 1) (q / 4 % 64) = .int := am_tys0 _ g2 _ g3 (by rw [← g4, hq4])
    have hnf : narrow (am_ty (q / 256 - 1) (q / 4 % 64)) (.int x) = .int x ∧ fits (am_ty (q / 256 - 1) (q / 4 % 64)) (.int x) = true := by rw [hty]; exact ⟨rfl, rfl⟩
    refine am_put hx hb hts (am_cls_w hrc) (am_ty (q / 256 - 1)) ht1 ht2 hown henv.1 hr.2.1 hr.2.2.1 hS (a - 1) o5 hrc (q / 4 % 64) (by rw [← hN]; exact g3) hlk ?_ hnf.1 hnf.2 (by unfold am_fs; rw [List.length_map, List.length_range]; exact g3) hd (fun H1 locs1 hP1 hD1 hS1 hz1 => ?_)
    · intro hfin
      rw [← hF] at hfin
      rw [hfin] at hfn
      simp only [Bool.not_true, Bool.false_or, Bool.and_eq_true] at hfn
      have f2 := am_beq hfn.2
      refine ⟨hini (am_beq hfn.1), ?_⟩
      rw [← hF]
      exact am_Fdecl _ _ g2 g3 (by omega)
    · have hcell : am_cell Γ (am_sI w (am_u w.2.1 a (q / 4 % 64) x)) a = .inr (q / 256 - 1, (am_fs Γ w (q / 256 - 1) a (am_nf (q / 256 - 1))).set (q / 4 % 64) (.int x)) := by
        unfold am_cell
        rw [if_pos (show (w.1 a).1 < 90 by rw [hsh]; omega)]
        show Sum.inr ((w.1 a).1 - 1, am_fs Γ (am_sI w (am_u w.2.1 a (q / 4 % 64) x)) ((w.1 a).1 - 1) a (w.1 a).2) = _
        rw [o4, hsh, am_fs_set (w := w) g3 (fun j hj => ?_)]
        · rw [← g4, hq4]
          show Sum.inr (_, List.set _ _ (am_cv Γ (.int (am_u w.2.1 a (q / 4 % 64) x a (q / 4 % 64))))) = _
          rw [am_u_s]
          try rfl
        · unfold am_fv
          simp only [am_u_k hj]
      rw [← hcell] at hP1 hD1
      have hqq := hK _ _ _ _ hsk H1 locs1 lc (am_up_rep hr o1 o2 rfl rfl (fun b j hb => by first | rfl | exact am_u_ne hb) (fun b j hb => by first | rfl | exact am_u_ne hb) (fun b j hb => by first | rfl | exact am_u_ne hb) (fun hh => by rw [hsh] at hh; omega) hP1 hD1 (fun _ => hz1)) hcn hS1 hl hln
      rw [hn] at hqq
      exact hqq
  · obtain ⟨x, r0, e0, hs0⟩ := am_pl_ex hs
    subst e0
    obtain ⟨a, r1, e1, hs1⟩ := am_pr_ex hs0
    subst e1
    obtain ⟨hsh, hsk⟩ := hs1
    have hm := am_m3_ok hm
    have hck := List.all_eq_true.mp am_LF_ok _ hm
    simp only [Bool.and_eq_true] at hck
    obtain ⟨⟨⟨g1, g2⟩, g3⟩, g4⟩ := hck
    have g1 : 0 < q / 256 := Nat.le_of_ble_eq_true g1
    have g2 : q / 256 - 1 < 13 := Nat.le_of_ble_eq_true g2
    have g3 : q / 4 % 64 < am_nf (q / 256 - 1) := Nat.le_of_ble_eq_true g3
    have g4 := am_beq g4
    have hlk := hts _ (am_LF_in _ (List.mem_map_of_mem hm))
    obtain ⟨rc, hrc, hF, hN⟩ := am_cls_get g2
    unfold am_lfw at hlk
    simp only at hlk g4
    rw [hF] at hlk
    obtain ⟨o1, o2, o3, o4, o5⟩ := am_obj hr henv (ci := q / 256 - 1) g2 (by rw [hsh]; omega)
    obtain ⟨ht1, ht2⟩ := am_cls_t hrc
    show W p l e R s m args below meth c H locs w.2.2.2.2.2.1 w.2.2.2.2.2.2 Z (F0 m ((am_ct mid).1.getD n 0) lc (.long x :: am_cv Γ (.ref a) :: r1.map (am_cv Γ)))
    rw [am_cv_own o1 o3]
    have hty : am_ty (q / 256 - 1) (q / 4 % 64) = .long := am_tys1 _ g2 _ g3 (by rw [← g4, hq4])
    have hnf : narrow (am_ty (q / 256 - 1) (q / 4 % 64)) (.long x) = .long x ∧ fits (am_ty (q / 256 - 1) (q / 4 % 64)) (.long x) = true := by rw [hty]; exact ⟨rfl, rfl⟩
    refine am_put hx hb hts (am_cls_w hrc) (am_ty (q / 256 - 1)) ht1 ht2 hown henv.1 hr.2.1 hr.2.2.1 hS (a - 1) o5 hrc (q / 4 % 64) (by rw [← hN]; exact g3) hlk ?_ hnf.1 hnf.2 (by unfold am_fs; rw [List.length_map, List.length_range]; exact g3) hd (fun H1 locs1 hP1 hD1 hS1 hz1 => ?_)
    · intro hfin
      rw [← hF] at hfin
      rw [hfin] at hfn
      simp only [Bool.not_true, Bool.false_or, Bool.and_eq_true] at hfn
      have f2 := am_beq hfn.2
      refine ⟨hini (am_beq hfn.1), ?_⟩
      rw [← hF]
      exact am_Fdecl _ _ g2 g3 (by omega)
    · have hcell : am_cell Γ (am_sL w (am_u w.2.2.1 a (q / 4 % 64) x)) a = .inr (q / 256 - 1, (am_fs Γ w (q / 256 - 1) a (am_nf (q / 256 - 1))).set (q / 4 % 64) (.long x)) := by
        unfold am_cell
        rw [if_pos (show (w.1 a).1 < 90 by rw [hsh]; omega)]
        show Sum.inr ((w.1 a).1 - 1, am_fs Γ (am_sL w (am_u w.2.2.1 a (q / 4 % 64) x)) ((w.1 a).1 - 1) a (w.1 a).2) = _
        rw [o4, hsh, am_fs_set (w := w) g3 (fun j hj => ?_)]
        · rw [← g4, hq4]
          show Sum.inr (_, List.set _ _ (am_cv Γ (.long (am_u w.2.2.1 a (q / 4 % 64) x a (q / 4 % 64))))) = _
          rw [am_u_s]
          try rfl
        · unfold am_fv
          simp only [am_u_k hj]
      rw [← hcell] at hP1 hD1
      have hqq := hK _ _ _ _ hsk H1 locs1 lc (am_up_rep hr o1 o2 rfl rfl (fun b j hb => by first | rfl | exact am_u_ne hb) (fun b j hb => by first | rfl | exact am_u_ne hb) (fun b j hb => by first | rfl | exact am_u_ne hb) (fun hh => by rw [hsh] at hh; omega) hP1 hD1 (fun _ => hz1)) hcn hS1 hl hln
      rw [hn] at hqq
      exact hqq
  · obtain ⟨x, r0, e0, hs0⟩ := am_pr_ex hs
    subst e0
    obtain ⟨a, r1, e1, hs1⟩ := am_pr_ex hs0
    subst e1
    obtain ⟨hsh, hsk⟩ := hs1
    have hm := am_m3_ok hm
    have hck := List.all_eq_true.mp am_LF_ok _ hm
    simp only [Bool.and_eq_true] at hck
    obtain ⟨⟨⟨g1, g2⟩, g3⟩, g4⟩ := hck
    have g1 : 0 < q / 256 := Nat.le_of_ble_eq_true g1
    have g2 : q / 256 - 1 < 13 := Nat.le_of_ble_eq_true g2
    have g3 : q / 4 % 64 < am_nf (q / 256 - 1) := Nat.le_of_ble_eq_true g3
    have g4 := am_beq g4
    have hlk := hts _ (am_LF_in _ (List.mem_map_of_mem hm))
    obtain ⟨rc, hrc, hF, hN⟩ := am_cls_get g2
    unfold am_lfw at hlk
    simp only at hlk g4
    rw [hF] at hlk
    obtain ⟨o1, o2, o3, o4, o5⟩ := am_obj hr henv (ci := q / 256 - 1) g2 (by rw [hsh]; omega)
    obtain ⟨ht1, ht2⟩ := am_cls_t hrc
    show W p l e R s m args below meth c H locs w.2.2.2.2.2.1 w.2.2.2.2.2.2 Z (F0 m ((am_ct mid).1.getD n 0) lc (am_cv Γ (.ref x) :: am_cv Γ (.ref a) :: r1.map (am_cv Γ)))
    rw [am_cv_own o1 o3]
    have hnf : narrow (am_ty (q / 256 - 1) (q / 4 % 64)) (am_cv Γ (.ref x)) = am_cv Γ (.ref x) ∧ fits (am_ty (q / 256 - 1) (q / 4 % 64)) (am_cv Γ (.ref x)) = true := by
      rcases am_tys2 (ty := am_ty (q / 256 - 1) (q / 4 % 64)) (by rw [← g4, hq4]) with ⟨C, z⟩ | ⟨C, z⟩ <;> rw [z] <;> rcases am_cv_ref henv x with y | ⟨t, y⟩ <;> rw [y] <;> exact ⟨rfl, rfl⟩
    refine am_put hx hb hts (am_cls_w hrc) (am_ty (q / 256 - 1)) ht1 ht2 hown henv.1 hr.2.1 hr.2.2.1 hS (a - 1) o5 hrc (q / 4 % 64) (by rw [← hN]; exact g3) hlk ?_ hnf.1 hnf.2 (by unfold am_fs; rw [List.length_map, List.length_range]; exact g3) hd (fun H1 locs1 hP1 hD1 hS1 hz1 => ?_)
    · intro hfin
      rw [← hF] at hfin
      rw [hfin] at hfn
      simp only [Bool.not_true, Bool.false_or, Bool.and_eq_true] at hfn
      have f2 := am_beq hfn.2
      refine ⟨hini (am_beq hfn.1), ?_⟩
      rw [← hF]
      exact am_Fdecl _ _ g2 g3 (by omega)
    · have hcell : am_cell Γ (am_sR w (am_u w.2.2.2.1 a (q / 4 % 64) x)) a = .inr (q / 256 - 1, (am_fs Γ w (q / 256 - 1) a (am_nf (q / 256 - 1))).set (q / 4 % 64) (am_cv Γ (.ref x))) := by
        unfold am_cell
        rw [if_pos (show (w.1 a).1 < 90 by rw [hsh]; omega)]
        show Sum.inr ((w.1 a).1 - 1, am_fs Γ (am_sR w (am_u w.2.2.2.1 a (q / 4 % 64) x)) ((w.1 a).1 - 1) a (w.1 a).2) = _
        rw [o4, hsh, am_fs_set (w := w) g3 (fun j hj => ?_)]
        · rw [← g4, hq4]
          show Sum.inr (_, List.set _ _ (am_cv Γ (.ref (am_u w.2.2.2.1 a (q / 4 % 64) x a (q / 4 % 64))))) = _
          rw [am_u_s]
          try rfl
        · unfold am_fv
          simp only [am_u_k hj]
      rw [← hcell] at hP1 hD1
      have hqq := hK _ _ _ _ hsk H1 locs1 lc (am_up_rep hr o1 o2 rfl rfl (fun b j hb => by first | rfl | exact am_u_ne hb) (fun b j hb => by first | rfl | exact am_u_ne hb) (fun b j hb => by first | rfl | exact am_u_ne hb) (fun hh => by rw [hsh] at hh; omega) hP1 hD1 (fun _ => hz1)) hcn hS1 hl hln
      rw [hn] at hqq
      exact hqq
  · obtain ⟨x, r0, e0, hs0⟩ := am_pi_ex hs
    subst e0
    obtain ⟨a, r1, e1, hs1⟩ := am_pr_ex hs0
    subst e1
    obtain ⟨hsh, h01, hsk⟩ := hs1
    have hm := am_m3_ok hm
    have hck := List.all_eq_true.mp am_LF_ok _ hm
    simp only [Bool.and_eq_true] at hck
    obtain ⟨⟨⟨g1, g2⟩, g3⟩, g4⟩ := hck
    have g1 : 0 < q / 256 := Nat.le_of_ble_eq_true g1
    have g2 : q / 256 - 1 < 13 := Nat.le_of_ble_eq_true g2
    have g3 : q / 4 % 64 < am_nf (q / 256 - 1) := Nat.le_of_ble_eq_true g3
    have g4 := am_beq g4
    have hlk := hts _ (am_LF_in _ (List.mem_map_of_mem hm))
    obtain ⟨rc, hrc, hF, hN⟩ := am_cls_get g2
    unfold am_lfw at hlk
    simp only at hlk g4
    rw [hF] at hlk
    obtain ⟨o1, o2, o3, o4, o5⟩ := am_obj hr henv (ci := q / 256 - 1) g2 (by rw [hsh]; omega)
    obtain ⟨ht1, ht2⟩ := am_cls_t hrc
    show W p l e R s m args below meth c H locs w.2.2.2.2.2.1 w.2.2.2.2.2.2 Z (F0 m ((am_ct mid).1.getD n 0) lc (.int x :: am_cv Γ (.ref a) :: r1.map (am_cv Γ)))
    rw [am_cv_own o1 o3]
    have hty : am_ty (q / 256 - 1) (q / 4 % 64) = .boolean := am_tys3 _ g2 _ g3 (by rw [← g4, hq4])
    have hnf : narrow (am_ty (q / 256 - 1) (q / 4 % 64)) (.int x) = .int x ∧ fits (am_ty (q / 256 - 1) (q / 4 % 64)) (.int x) = true := by rw [hty]; rcases h01 with rfl | rfl <;> exact ⟨rfl, rfl⟩
    refine am_put hx hb hts (am_cls_w hrc) (am_ty (q / 256 - 1)) ht1 ht2 hown henv.1 hr.2.1 hr.2.2.1 hS (a - 1) o5 hrc (q / 4 % 64) (by rw [← hN]; exact g3) hlk ?_ hnf.1 hnf.2 (by unfold am_fs; rw [List.length_map, List.length_range]; exact g3) hd (fun H1 locs1 hP1 hD1 hS1 hz1 => ?_)
    · intro hfin
      rw [← hF] at hfin
      rw [hfin] at hfn
      simp only [Bool.not_true, Bool.false_or, Bool.and_eq_true] at hfn
      have f2 := am_beq hfn.2
      refine ⟨hini (am_beq hfn.1), ?_⟩
      rw [← hF]
      exact am_Fdecl _ _ g2 g3 (by omega)
    · have hcell : am_cell Γ (am_sI w (am_u w.2.1 a (q / 4 % 64) x)) a = .inr (q / 256 - 1, (am_fs Γ w (q / 256 - 1) a (am_nf (q / 256 - 1))).set (q / 4 % 64) (.int x)) := by
        unfold am_cell
        rw [if_pos (show (w.1 a).1 < 90 by rw [hsh]; omega)]
        show Sum.inr ((w.1 a).1 - 1, am_fs Γ (am_sI w (am_u w.2.1 a (q / 4 % 64) x)) ((w.1 a).1 - 1) a (w.1 a).2) = _
        rw [o4, hsh, am_fs_set (w := w) g3 (fun j hj => ?_)]
        · rw [← g4, hq4]
          show Sum.inr (_, List.set _ _ (am_cv Γ (.int (am_u w.2.1 a (q / 4 % 64) x a (q / 4 % 64))))) = _
          rw [am_u_s]
          try rfl
        · unfold am_fv
          simp only [am_u_k hj]
      rw [← hcell] at hP1 hD1
      have hqq := hK _ _ _ _ hsk H1 locs1 lc (am_up_rep hr o1 o2 rfl rfl (fun b j hb => by first | rfl | exact am_u_ne hb) (fun b j hb => by first | rfl | exact am_u_ne hb) (fun b j hb => by first | rfl | exact am_u_ne hb) (fun hh => by rw [hsh] at hh; omega) hP1 hD1 (fun _ => hz1)) hcn hS1 hl hln
      rw [hn] at hqq
      exact hqq
