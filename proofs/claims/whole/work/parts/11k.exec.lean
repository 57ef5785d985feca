/-! What the code of a law does -/
def q_seg (ds : List Int) (lt : Nat → Int) (D : Nat) (s0 s1 : List Int) : Prop := ∀ (c : Nat → Int) (N p fu : Nat) (st : List Int), (∀ x, x < ds.length → c (p + x) = ds.getD x 0) → p + ds.length ≤ N → st.length + D ≤ 40 → q_ex c N lt (fu + ds.length) p (s0 ++ st) = q_ex c N lt fu (p + ds.length) (s1 ++ st)
theorem q_getD_l {a b : List Int} {x : Nat} (h : x < a.length) : (a ++ b).getD x 0 = a.getD x 0 := by
  simp [List.getD, List.getElem?_append_left h]
theorem q_getD_r {a b : List Int} (x : Nat) : (a ++ b).getD (a.length + x) 0 = b.getD x 0 := by
  simp [List.getD, List.getElem?_append_right]
theorem q_seg_app {d e : List Int} {lt : Nat → Int} {D : Nat} {s0 s1 s2 : List Int} (h1 : q_seg d lt D s0 s1) (h2 : q_seg e lt D s1 s2) : q_seg (d ++ e) lt D s0 s2 := by
  intro c N p fu st hc hN hst
  rw [List.length_append] at hc hN ⊢
  rw [show fu + (d.length + e.length) = (fu + e.length) + d.length by omega, h1 c N p (fu + e.length) st (fun x hx => by rw [hc x (by omega), q_getD_l hx]) (by omega) hst]
  rw [h2 c N (p + d.length) fu st (fun x hx => by rw [Nat.add_assoc, hc (d.length + x) (by omega), q_getD_r]) (by omega) hst, Nat.add_assoc]
theorem q_seg_nil (lt : Nat → Int) (D : Nat) (s : List Int) : q_seg [] lt D s s := fun c N p fu st _ _ _ => rfl
theorem q_seg_up {d : List Int} {lt : Nat → Int} {D E : Nat} {s0 s1 : List Int} {u : Int} (h : q_seg d lt D s0 s1) (hD : D + 1 ≤ E) : q_seg d lt E (s0 ++ [u]) (s1 ++ [u]) := by
  intro c N p fu st hc hN hst
  have := h c N p fu (u :: st) hc hN (by rw [List.length_cons]; omega)
  rw [List.append_assoc, List.append_assoc]
  exact this
theorem q_seg_le {d : List Int} {lt : Nat → Int} {D E : Nat} {s0 s1 : List Int} (h : q_seg d lt D s0 s1) (hD : D ≤ E) : q_seg d lt E s0 s1 := fun c N p fu st hc hN hst => h c N p fu st hc hN (by omega)
theorem q_seg_let (lt : Nat → Int) (l : Int) (hl : 0 ≤ l ∧ l < 6) {D : Nat} (hD : 1 ≤ D) : q_seg [l] lt D [] [lt l.toNat] := by
  intro c N p fu st hc hN hst
  have e : c p = l := hc 0 (by simp)
  rw [List.length_singleton] at hN ⊢
  rw [q_ex_s, if_neg (by omega), e, if_neg (by omega), if_neg (by omega), if_neg (by omega), if_pos (by omega), if_pos (by simp; omega)]
  rfl
theorem q_seg_num (lt : Nat → Int) (v : Int) (hl : 0 ≤ v ∧ v < 99900) {D : Nat} (hD : 1 ≤ D) : q_seg [100 + v] lt D [] [v] := by
  intro c N p fu st hc hN hst
  have e : c p = 100 + v := hc 0 (by simp)
  rw [List.length_singleton] at hN ⊢
  rw [q_ex_s, if_neg (by omega), e, if_neg (by omega), if_neg (by omega), if_pos (by omega), if_pos (by simp; omega), show (100 : Int) + v - 100 = v by omega]
  rfl
theorem q_seg_not (lt : Nat → Int) (v : Int) (D : Nat) : q_seg [19] lt D [v] [if v = 0 then 1 else 0] := by
  intro c N p fu st hc hN hst
  have e : c p = 19 := hc 0 (by simp)
  rw [List.length_singleton] at hN ⊢
  rw [q_ex_s, if_neg (by omega), e, if_neg (by omega), if_neg (by omega), if_neg (by omega), if_neg (by omega), if_pos (by omega)]
  rfl
theorem q_seg_op (lt : Nat → Int) (o l r : Int) (ho : 10 ≤ o ∧ o ≤ 18) (hb : (o = 17 ∨ o = 18) → (l = 0 ∨ l = 1) ∧ (r = 0 ∨ r = 1)) (D : Nat) : q_seg [o] lt D [r, l] [q_jn o l r] := by
  intro c N p fu st hc hN hst
  have e : c p = o := hc 0 (by simp)
  rw [List.length_singleton] at hN ⊢
  rw [q_ex_s, if_neg (by omega), e, if_neg (by omega), if_neg (by omega), if_neg (by omega), if_neg (by omega), if_neg (by omega)]
  show (if _ then none else _) = _
  rw [if_neg]
  · rfl
  · rintro ⟨q1, q2⟩
    exact q2 (hb q1)
def q_K (tag : Nat) : Nat := if tag = 0 then 13 else if tag ≤ 2 then 14 else if tag ≤ 4 then 15 else if tag ≤ 6 then 16 else if tag ≤ 8 then 17 else 18
def q_lpt (tag : Nat) : Prop := tag = 2 ∨ tag = 4 ∨ tag = 6 ∨ tag = 8 ∨ tag = 10
def q_bo (z : Int) : Prop := z = 0 ∨ z = 1
def q_in (tag : Nat) (z : Int) : Prop := ((tag = 2 ∨ tag = 4 ∨ tag = 6) → q_m6 z) ∧ ((tag = 8 ∨ tag = 10) → q_bo z)
def q_ou (tag : Nat) (z : Int) : Prop := q_m6 z ∧ (5 ≤ tag → q_bo z)
theorem q_bo_m6 {z : Int} (h : q_bo z) : q_m6 z := by rcases h with rfl | rfl <;> exact ⟨by decide, by decide⟩
theorem q_jn_bo {o l r : Int} (ho : 14 ≤ o ∧ o ≤ 18) : q_bo (q_jn o l r) := by
  unfold q_jn
  rw [if_neg (by omega), if_neg (by omega), if_neg (by omega), if_neg (by omega)]
  repeat' split
  all_goals first | exact Or.inl rfl | exact Or.inr rfl
theorem q_cs_rg {z : Int} (h : ¬ q_cs z = -1) : 14 ≤ q_cs z ∧ q_cs z ≤ 16 := by
  unfold q_cs at h ⊢
  by_cases h1 : z = 61
  · rw [if_pos h1]; omega
  · by_cases h2 : z = 60
    · rw [if_neg h1, if_pos h2]; omega
    · by_cases h3 : z = 62
      · rw [if_neg h1, if_neg h2, if_pos h3]; omega
      · rw [if_neg h1, if_neg h2, if_neg h3] at h; exact absurd rfl h
/-- what a piece's code does to the stack -/
def q_px (tag dp : Nat) (lt : Nat → Int) (cs : List Int) (v : q_LV) (c : List Int) (w : q_LV) : Prop := q_ou tag (w lt) ∧ ∃ d, c = cs ++ d ∧ ∃ s0 : List Int, ((q_lpt tag ∧ s0 = [v lt]) ∨ (¬ q_lpt tag ∧ s0 = [])) ∧ q_seg d lt (q_K tag - 2 * dp) s0 [w lt]
theorem q_p_ex (b : Nat → Int) (n : Nat) (lt : Nat → Int) (hlt : ∀ j, j < 6 → q_m6 (lt j)) : ∀ (f tag dp i : Nat) (cs : List Int) (v : q_LV) (j : Nat) (c : List Int) (w : q_LV), q_p b n f tag dp i cs v = some (.inr (j, c, w)) → dp ≤ 6 → q_in tag (v lt) → q_px tag dp lt cs v c w
  | 0, tag, dp, i, cs, v, j, c, w, h, hi, hv => by cases h
  | f + 1, tag, dp, i, cs, v, j, c, w, h, hd, hv => by
    have ih := q_p_ex b n lt hlt f
    have nl : ∀ {t : Nat}, (t = 0 ∨ t = 1 ∨ t = 3 ∨ t = 5 ∨ t = 7 ∨ t = 9) → ¬ q_lpt t ∧ q_in t (q_z lt) := by
      intro t ht
      exact ⟨by unfold q_lpt; omega, by omega, by omega⟩
    have lp : ∀ (o : Int) (t T : Nat), tag = T → 10 ≤ o ∧ o ≤ 18 → (t = 0 ∨ t = 1 ∨ t = 5 ∨ t = 7) → (T = 2 ∨ T = 4 ∨ T = 8 ∨ T = 10) → T = t + 2 ∧ t = 0 ∨ T = t + 3 → (5 ≤ T ↔ 14 ≤ o) → (5 ≤ T → 5 ≤ t) → q_K t + 1 ≤ q_K T → q_bd (q_p b n f t dp (q_s b n (i + 1)) cs q_z) (fun j c w => q_p b n f T dp j (c ++ [o]) (q_j o v w)) = some (.inr (j, c, w)) → q_px tag dp lt cs v c w := by
      intro o t T hT0 ho ht hT hTt hTo hTt2 hK hh
      subst hT0
      obtain ⟨j1, c1, w1, e1, e2⟩ := q_bd_ok hh
      obtain ⟨⟨o1, o2⟩, d1, rfl, s0, hs0, g1⟩ := ih _ _ _ _ _ _ _ _ e1 hd (nl (by omega)).2
      have hs : s0 = [] := by
        rcases hs0 with q | q
        · exact absurd q.1 (nl (t := t) (by omega)).1
        · exact q.2
      subst hs
      have vm : q_m6 (v lt) := by
        by_cases q : 5 ≤ tag
        · exact q_bo_m6 (hv.2 (by omega))
        · exact hv.1 (by omega)
      have jn : q_ou tag (q_jn o (v lt) (w1 lt)) := ⟨q_jn_rg vm o1, fun q => q_jn_bo ⟨hTo.mp q, ho.2⟩⟩
      obtain ⟨⟨u1, u2⟩, d2, rfl, s2, hs2, g2⟩ := ih _ _ _ _ _ _ _ _ e2 hd ⟨fun _ => jn.1, fun q => jn.2 (by omega)⟩
      have hs2' : s2 = [q_jn o (v lt) (w1 lt)] := by
        rcases hs2 with q | q
        · exact q.2
        · exact absurd (by unfold q_lpt; omega) q.1
      subst hs2'
      refine ⟨⟨u1, u2⟩, d1 ++ [o] ++ d2, by simp [List.append_assoc], [v lt], Or.inl ⟨by unfold q_lpt; omega, rfl⟩, ?_⟩
      have kk : q_K t - 2 * dp + 1 ≤ q_K tag - 2 * dp := by
        have : 13 ≤ q_K t := by unfold q_K; repeat' split
                                all_goals omega
        omega
      exact q_seg_app (q_seg_app (q_seg_up g1 kk) (q_seg_op lt o (v lt) (w1 lt) ho (fun q => ⟨hv.2 (by omega), o2 (by omega)⟩) _)) g2
    have sq : ∀ (t T : Nat), (t = 0 ∨ t = 1 ∨ t = 3 ∨ t = 5 ∨ t = 7) → (T = 2 ∨ T = 4 ∨ T = 6 ∨ T = 8 ∨ T = 10) → ¬ q_lpt tag → (5 ≤ tag → 5 ≤ T) → q_K t ≤ q_K tag → q_K T ≤ q_K tag → ((T = 8 ∨ T = 10) → 5 ≤ t) → q_bd (q_p b n f t dp i cs q_z) (fun j c w => q_p b n f T dp j c w) = some (.inr (j, c, w)) → q_px tag dp lt cs v c w := by
      intro t T ht hT hl h5 hK1 hK2 hTt hh
      obtain ⟨j1, c1, w1, e1, e2⟩ := q_bd_ok hh
      obtain ⟨⟨o1, o2⟩, d1, rfl, s0, hs0, g1⟩ := ih _ _ _ _ _ _ _ _ e1 hd (nl (by omega)).2
      have hs : s0 = [] := by
        rcases hs0 with q | q
        · exact absurd q.1 (nl (t := t) (by omega)).1
        · exact q.2
      subst hs
      obtain ⟨⟨u1, u2⟩, d2, rfl, s2, hs2, g2⟩ := ih _ _ _ _ _ _ _ _ e2 hd ⟨fun _ => o1, fun q => o2 (hTt q)⟩
      have hs2' : s2 = [w1 lt] := by
        rcases hs2 with q | q
        · exact q.2
        · exact absurd (by unfold q_lpt; omega) q.1
      subst hs2'
      exact ⟨⟨u1, fun q => u2 (h5 q)⟩, d1 ++ d2, List.append_assoc _ _ _, [], Or.inr ⟨hl, rfl⟩, q_seg_app (q_seg_le g1 (by omega)) (q_seg_le g2 (by omega))⟩
    have stay : ∀ {x : q_LV}, q_lpt tag → tag ≠ 6 → x = v → (some (.inr (i, cs, x)) : q_PR) = some (.inr (j, c, w)) → q_px tag dp lt cs v c w := by
      intro x hT h6 hx hh
      cases hh
      subst hx
      unfold q_lpt at hT
      refine ⟨⟨?_, fun q => hv.2 (by omega)⟩, [], (List.append_nil _).symm, _, Or.inl ⟨hT, rfl⟩, q_seg_nil _ _ _⟩
      by_cases q : 5 ≤ tag
      · exact q_bo_m6 (hv.2 (by omega))
      · exact hv.1 (by omega)
    have br : ∀ (t : Nat) (z : Int), (t = 3 ∨ t = 9) → dp ≠ 6 → ¬ q_lpt tag → (5 ≤ tag → 5 ≤ t) → q_K t ≤ q_K tag + 2 → q_bd (q_p b n f t (dp + 1) (q_s b n (i + 1)) cs q_z) (fun j c w => if q_tk b n j = z then some (.inr (q_s b n (j + 1), c, w)) else some (.inl j)) = some (.inr (j, c, w)) → q_px tag dp lt cs v c w := by
      intro t z ht hd6 hl h5 hK hh
      obtain ⟨j1, c1, w1, e1, e2⟩ := q_bd_ok hh
      obtain ⟨⟨o1, o2⟩, d1, rfl, s0, hs0, g1⟩ := ih _ _ _ _ _ _ _ _ e1 (by omega) (nl (by omega)).2
      have hs : s0 = [] := by
        rcases hs0 with q | q
        · exact absurd q.1 (nl (t := t) (by omega)).1
        · exact q.2
      subst hs
      by_cases q : q_tk b n j1 = z
      · rw [if_pos q] at e2
        cases e2
        exact ⟨⟨o1, fun q => o2 (h5 q)⟩, d1, rfl, [], Or.inr ⟨hl, rfl⟩, q_seg_le g1 (by omega)⟩
      · rw [if_neg q] at e2; cases e2
    have dl : ¬ q_lpt 0 ∧ ¬ q_lpt 1 ∧ ¬ q_lpt 3 ∧ ¬ q_lpt 5 ∧ ¬ q_lpt 7 ∧ ¬ q_lpt 9 := by unfold q_lpt; omega
    by_cases h0 : tag = 0
    · subst h0
      rw [q_p0] at h
      by_cases k1 : q_tk b n i = 91
      · rw [if_pos k1] at h
        by_cases k2 : dp = 6
        · rw [if_pos k2] at h; cases h
        · rw [if_neg k2] at h; exact br 3 93 (by omega) k2 dl.1 (by omega) (by decide) h
      · rw [if_neg k1] at h
        have kd : 1 ≤ q_K 0 - 2 * dp := by show 1 ≤ 13 - 2 * dp; omega
        by_cases k2 : 0 ≤ q_li (q_tk b n i)
        · rw [if_pos k2] at h
          cases h
          have k3 := (q_li_nn k2).2
          exact ⟨⟨hlt _ (by omega), by omega⟩, _, rfl, [], Or.inr ⟨dl.1, rfl⟩, q_seg_let lt _ ⟨k2, k3⟩ kd⟩
        · rw [if_neg k2] at h
          by_cases k3 : q_dg b n 5 i = 0
          · rw [if_pos k3] at h; cases h
          · rw [if_neg k3] at h
            by_cases k4 : q_dg b n 5 i = 5
            · rw [if_pos k4] at h; cases h
            · rw [if_neg k4] at h
              cases h
              have d0 := q_dg_le b n 5 i
              have d1 := q_nv_rg (b := b) (i := i) (q_dg b n 5 i) (fun x hx => (q_dg_in b n 5 i x hx).2)
              have d2 : (10 : Nat) ^ (q_dg b n 5 i) ≤ 10 ^ 4 := Nat.pow_le_pow_right (by decide) (by omega)
              have d3 : q_nv b i (q_dg b n 5 i) < 10000 := by omega
              exact ⟨⟨⟨by have := d1.1; show _ ≤ q_nv b i _; omega, by show q_nv b i _ ≤ _; omega⟩, by omega⟩, _, rfl, [], Or.inr ⟨dl.1, rfl⟩, q_seg_num lt _ ⟨d1.1, by omega⟩ kd⟩
    by_cases h1 : tag = 1
    · subst h1; rw [q_p1] at h; exact sq 0 2 (by omega) (by omega) dl.2.1 (by omega) (by decide) (by decide) (by omega) h
    by_cases h2 : tag = 2
    · subst h2
      rw [q_p2] at h
      by_cases k1 : q_tk b n i = 42
      · rw [if_pos k1] at h; exact lp 12 0 2 rfl (by omega) (by omega) (by omega) (by omega) (by omega) (by omega) (by decide) h
      · rw [if_neg k1] at h
        by_cases k2 : q_tk b n i = 47
        · rw [if_pos k2] at h; exact lp 13 0 2 rfl (by omega) (by omega) (by omega) (by omega) (by omega) (by omega) (by decide) h
        · rw [if_neg k2] at h; exact stay (by unfold q_lpt; omega) (by omega) rfl h
    by_cases h3 : tag = 3
    · subst h3; rw [q_p3] at h; exact sq 1 4 (by omega) (by omega) dl.2.2.1 (by omega) (by decide) (by decide) (by omega) h
    by_cases h4 : tag = 4
    · subst h4
      rw [q_p4] at h
      by_cases k1 : q_tk b n i = 43
      · rw [if_pos k1] at h; exact lp 10 1 4 rfl (by omega) (by omega) (by omega) (by omega) (by omega) (by omega) (by decide) h
      · rw [if_neg k1] at h
        by_cases k2 : q_tk b n i = 45
        · rw [if_pos k2] at h; exact lp 11 1 4 rfl (by omega) (by omega) (by omega) (by omega) (by omega) (by omega) (by decide) h
        · rw [if_neg k2] at h; exact stay (by unfold q_lpt; omega) (by omega) rfl h
    by_cases h5 : tag = 5
    · subst h5
      rw [q_p5] at h
      by_cases k1 : q_tk b n i = 33
      · rw [if_pos k1] at h
        by_cases k2 : dp = 6
        · rw [if_pos k2] at h; cases h
        · rw [if_neg k2] at h
          obtain ⟨j1, c1, w1, e1, e2⟩ := q_bd_ok h
          obtain ⟨⟨o1, o2⟩, d1, rfl, s0, hs0, g1⟩ := ih _ _ _ _ _ _ _ _ e1 (by omega) (nl (by omega)).2
          have hs : s0 = [] := by
            rcases hs0 with q | q
            · exact absurd q.1 dl.2.2.2.1
            · exact q.2
          subst hs
          cases e2
          have ob : q_bo (q_nt w1 lt) := by
            unfold q_nt
            by_cases z : w1 lt = 0
            · rw [if_pos z]; exact Or.inr rfl
            · rw [if_neg z]; exact Or.inl rfl
          exact ⟨⟨q_bo_m6 ob, fun _ => ob⟩, d1 ++ [19], List.append_assoc _ _ _, [], Or.inr ⟨dl.2.2.2.1, rfl⟩, q_seg_app (q_seg_le g1 (by omega)) (q_seg_not lt (w1 lt) _)⟩
      · rw [if_neg k1] at h
        by_cases k2 : q_tk b n i = 40
        · rw [if_pos k2] at h
          by_cases k3 : dp = 6
          · rw [if_pos k3] at h; cases h
          · rw [if_neg k3] at h; exact br 9 41 (by omega) k3 dl.2.2.2.1 (by omega) (by decide) h
        · rw [if_neg k2] at h; exact sq 3 6 (by omega) (by omega) dl.2.2.2.1 (by omega) (by decide) (by decide) (by omega) h
    by_cases h6 : tag = 6
    · subst h6
      rw [q_p6] at h
      by_cases k1 : q_cs (q_tk b n i) = -1
      · rw [if_pos k1] at h; cases h
      · rw [if_neg k1] at h
        obtain ⟨j1, c1, w1, e1, e2⟩ := q_bd_ok h
        obtain ⟨⟨o1, o2⟩, d1, rfl, s0, hs0, g1⟩ := ih _ _ _ _ _ _ _ _ e1 hd (nl (by omega)).2
        have hs : s0 = [] := by
          rcases hs0 with q | q
          · exact absurd q.1 dl.2.2.1
          · exact q.2
        subst hs
        cases e2
        have r := q_cs_rg k1
        have ob : q_bo (q_j (q_cs (q_tk b n i)) v w1 lt) := q_jn_bo (by omega)
        refine ⟨⟨q_bo_m6 ob, fun _ => ob⟩, d1 ++ [q_cs (q_tk b n i)], List.append_assoc _ _ _, [v lt], Or.inl ⟨by unfold q_lpt; omega, rfl⟩, ?_⟩
        have kk : q_K 3 - 2 * dp + 1 ≤ q_K 6 - 2 * dp := by show 15 - 2 * dp + 1 ≤ 16 - 2 * dp; omega
        exact q_seg_app (q_seg_up g1 kk) (q_seg_op lt _ (v lt) (w1 lt) (by omega) (by omega) _)
    by_cases h7 : tag = 7
    · subst h7; rw [q_p7] at h; exact sq 5 8 (by omega) (by omega) dl.2.2.2.2.1 (by omega) (by decide) (by decide) (by omega) h
    by_cases h8 : tag = 8
    · subst h8
      rw [q_p8] at h
      by_cases k1 : q_tk b n i = 38
      · rw [if_pos k1] at h; exact lp 17 5 8 rfl (by omega) (by omega) (by omega) (by omega) (by omega) (by omega) (by decide) h
      · rw [if_neg k1] at h; exact stay (by unfold q_lpt; omega) (by omega) rfl h
    by_cases h9 : tag = 9
    · subst h9; rw [q_p9] at h; exact sq 7 10 (by omega) (by omega) dl.2.2.2.2.2 (by omega) (by decide) (by decide) (by omega) h
    by_cases h10 : tag = 10
    · subst h10
      rw [q_p10] at h
      by_cases k1 : q_tk b n i = 124
      · rw [if_pos k1] at h; exact lp 18 7 10 rfl (by omega) (by omega) (by omega) (by omega) (by omega) (by omega) (by decide) h
      · rw [if_neg k1] at h; exact stay (by unfold q_lpt; omega) (by omega) rfl h
    · rw [q_p.eq_def] at h
      simp only [h0, h1, h2, h3, h4, h5, h6, h7, h8, h9, h10, if_false] at h
      cases h
