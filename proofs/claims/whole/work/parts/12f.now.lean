/-! The round that holds, as it is now: z = (office, round, doors, heat, cups) -/
abbrev q_Z : Type := q_Y × (Nat → Int) × Nat × Int × Int
abbrev q_zy (z : q_Z) : q_Y := z.1
abbrev q_zr (z : q_Z) : Nat → Int := z.2.1
abbrev q_zd (z : q_Z) : Nat := z.2.2.1
abbrev q_zh (z : q_Z) : Int := z.2.2.2.1
abbrev q_zc (z : q_Z) : Int := z.2.2.2.2
def q_zv (z : q_Z) : List Nat := q_vis (q_yR (q_zy z)) (q_zd z) (q_zr z) 8 0
def q_zs (z : q_Z) : q_S := q_go (q_zy z) (q_s0 (q_zh z) (q_zc z)) (q_zv z)
def q_Zk (z : q_Z) : Prop := q_Yk (q_zy z) ∧ q_zd z < 256 ∧ (0 ≤ q_zh z ∧ q_zh z ≤ 99) ∧ (0 ≤ q_zc z ∧ q_zc z ≤ 60) ∧ ∀ x, x < 8 → -1 ≤ q_zr z x ∧ q_zr z x < 8
/-- the class's held round -/
def q_Hc (I : Nat → Nat → Int) (rd : Nat → Int) : Prop := (0 ≤ I 1 15 ∧ I 1 15 ≤ 4) ∧ ((I 1 16 = -1 ∧ ∀ x, rd x = -1) ∨ ∃ w : Nat, I 1 16 = (w : Int) ∧ (w : Int) < I 1 15 ∧ ∀ x, x < 8 → I (150 + w) x = rd x)
def q_ZC (I : Nat → Nat → Int) (lp : Nat) (z : q_Z) : Prop := q_Yc I lp (q_zy z) ∧ q_Hc I (q_zr z) ∧ I 18 2 = (q_zd z : Int) ∧ I 18 4 = q_zh z ∧ I 18 5 = q_zc z
/-- the reference's held round -/
def q_Hm (I : Nat → Nat → Int) (rd : Nat → Int) : Prop := (I 179 30 = -1 ∧ ∀ x, rd x = -1) ∨ ∃ w : Nat, I 179 30 = (w : Int) ∧ w < 4 ∧ q_Rm I w rd
def q_ZM (I L : Nat → Nat → Int) (z : q_Z) (FA : Nat → q_AV) (nl : Nat) : Prop := q_Ym I L (q_zy z) FA nl ∧ q_Hm I (q_zr z) ∧ (∀ r, r < q_yR (q_zy z) → I 190 (16 + r) = if (q_zd z).testBit r = true then 1 else 0) ∧ I 190 25 = q_zh z ∧ I 190 26 = q_zc z
abbrev q_dZC : List (Nat × Nat × Nat) := [(14, 3, 4), (15, 0, 4), (16, 0, 40), (17, 0, 72), (167, 2, 3), (168, 0, 240), (170, 2, 3), (171, 0, 240), (173, 2, 3), (174, 0, 240), (176, 2, 3), (177, 0, 240), (18, 2, 6), (19, 0, 8), (1, 15, 17), (150, 0, 8), (151, 0, 8), (152, 0, 8), (153, 0, 8)]
theorem q_Hc_ag {I I' : Nat → Nat → Int} {rd : Nat → Int} (h : q_Hc I rd) (ha : q_ag [(1, 15, 17), (150, 0, 8), (151, 0, 8), (152, 0, 8), (153, 0, 8)] I I') : q_Hc I' rd := by
  obtain ⟨h1, h2⟩ := h
  have e15 : I' 1 15 = I 1 15 := ha 1 15 rfl
  have e16 : I' 1 16 = I 1 16 := ha 1 16 rfl
  unfold q_Hc
  rw [e15, e16]
  refine ⟨h1, ?_⟩
  rcases h2 with q | ⟨w, a1, a2, a3⟩
  · exact Or.inl q
  · refine Or.inr ⟨w, a1, a2, fun x hx => ?_⟩
    rw [← a3 x hx]
    have hw : w = 0 ∨ w = 1 ∨ w = 2 ∨ w = 3 := by omega
    rcases hw with rfl | rfl | rfl | rfl
    · exact q_ag_at ha (150, 0, 8) (by simp) (Nat.zero_le _) hx
    · exact q_ag_at ha (151, 0, 8) (by simp) (Nat.zero_le _) hx
    · exact q_ag_at ha (152, 0, 8) (by simp) (Nat.zero_le _) hx
    · exact q_ag_at ha (153, 0, 8) (by simp) (Nat.zero_le _) hx
theorem q_ZC_ag {I I' : Nat → Nat → Int} {lp : Nat} {z : q_Z} (hZ : q_Zk z) (h : q_ZC I lp z) (ha : q_ag q_dZC I I') : q_ZC I' lp z := by
  obtain ⟨h1, h2, h3, h4, h5⟩ := h
  exact ⟨q_Yc_ag hZ.1 h1 (q_ag_sub ha rfl), q_Hc_ag h2 (q_ag_sub ha rfl), (ha 18 2 rfl).trans h3, (ha 18 4 rfl).trans h4, (ha 18 5 rfl).trans h5⟩
theorem q_ZC_fK {I I' : Nat → Nat → Int} {lp : Nat} {z : q_Z} (hZ : q_Zk z) (h : q_ZC I lp z) (hf : x_fr q_fK I I') : q_ZC I' lp z := q_ZC_ag hZ h (x_fr_ag hf rfl)
theorem q_Rm_eq {I I' : Nat → Nat → Int} {w : Nat} {rd : Nat → Int} (h : q_Rm I w rd) (e188 : ∀ k, I' 188 k = I 188 k) (e189 : ∀ k, I' 189 k = I 189 k) : q_Rm I' w rd := by
  obtain ⟨n, a1, a2, a3, a4⟩ := h
  exact ⟨n, (e189 w).trans a1, a2, fun x hx => by rw [e188]; exact a3 x hx, a4⟩
theorem q_ZM_eq {I I' L L' : Nat → Nat → Int} {z : q_Z} {FA : Nat → q_AV} {nl : Nat} (h : q_ZM I L z FA nl) (hY : q_Ym I' L' (q_zy z) FA nl) (e30 : I' 179 30 = I 179 30) (e188 : ∀ k, I' 188 k = I 188 k) (e189 : ∀ k, I' 189 k = I 189 k) (e190 : ∀ k, I' 190 k = I 190 k) : q_ZM I' L' z FA nl := by
  obtain ⟨h1, h2, h3, h4, h5⟩ := h
  refine ⟨hY, ?_, fun r hr => (e190 _).trans (h3 r hr), (e190 _).trans h4, (e190 _).trans h5⟩
  unfold q_Hm
  rw [e30]
  rcases h2 with q | ⟨w, a1, a2, a3⟩
  · exact Or.inl q
  · exact Or.inr ⟨w, a1, a2, q_Rm_eq a3 e188 e189⟩
theorem q_ZM_fD {I I' L L' : Nat → Nat → Int} {z : q_Z} {FA : Nat → q_AV} {nl : Nat} (h : q_ZM I L z FA nl) (hf : x_fr q_fD I I') (hY : q_Ym I' L' (q_zy z) FA nl) : q_ZM I' L' z FA nl := q_ZM_eq h hY (hf _ _ rfl) (fun k => hf 188 k rfl) (fun k => hf 189 k rfl) (fun k => hf 190 k rfl)
theorem s_along {g : x_G} {k : Nat} {Q : x_Q} {I L : Nat → Nat → Int} {lp tp : Nat} {y : q_Y} (hY : q_Yk y) (hc : q_Yc I lp y) {a sh : Nat} {rd : Nat → Int} (ha : (a = 0 ∧ ∀ x, rd x = -1) ∨ ((a = 150 ∨ a = 151 ∨ a = 152 ∨ a = 153) ∧ ∀ x, x < 8 → I a x = rd x ∧ -1 ≤ rd x ∧ rd x < 8)) (hsh : sh < 256) {h c : Int} (hh : 0 ≤ h ∧ h ≤ 99) (ec : I 18 5 = c) (hcu : 0 ≤ c ∧ c ≤ 60) (hq : ∀ I', x_fr q_fK I I' → q_Wc I' (q_go y (q_s0 h c) (q_vis (q_yR y) sh rd 8 0)) (q_vis (q_yR y) sh rd 8 0) → Q [] (I', L, lp, tp)) : x_X g (k + 9) 104 [x_r 156, x_r a, x_i (sh : Int), x_i h] (I, L, lp, tp) Q := by
  refine v_along (k := k + 6) ?_
  rw [ec]
  have f0 : x_fr q_fK I (x_u (x_u (x_u (x_u (x_u (x_u I 156 8 0) 156 5 0) 156 9 0) 156 10 0) 156 11 0) 156 12 c) := x_fr_u (x_fr_u (x_fr_u (x_fr_u (x_fr_u (x_fr_u (x_fr_refl _ _) rfl) rfl) rfl) rfl) rfl) rfl
  have W0 : q_Wc (x_u (x_u (x_u (x_u (x_u (x_u I 156 8 0) 156 5 0) 156 9 0) 156 10 0) 156 11 0) 156 12 c) (q_s0 h c) [] := ⟨rfl, rfl, rfl, rfl, rfl, rfl, fun r hr hb => by
    have : (0 : Nat).testBit r = true := hb
    simp at this, rfl, fun x hx => absurd hx (by simp)⟩
  rcases ha with ⟨rfl, hrd⟩ | ⟨ha, hrd⟩
  · refine ⟨by decide, fun z => absurd rfl z, fun _ => hq _ f0 ?_⟩
    rw [q_vis_none _ _ _ 8 0 (fun x _ _ => hrd x)]
    exact W0
  · refine ⟨by omega, fun _ => ?_, fun z => by omega⟩
    exact s_along_L hY ha I hrd (by omega) 8 0 (q_s0 h c) [] _ rfl f0 (q_Yc_fK hY hc f0) (q_Si_0 y hh hcu) (Int.le_refl _) W0 hq
theorem s_goRound {g : x_G} {k : Nat} {Q : x_Q} {I L : Nat → Nat → Int} {lp tp : Nat} {z : q_Z} (hZ : q_Zk z) (hc : q_ZC I lp z) (hq : ∀ I', x_fr q_fK I I' → q_ZC I' lp z → q_Wc I' (q_zs z) (q_zv z) → Q [] (I', L, lp, tp)) : x_X g (k + 12) 182 [x_r 1] (I, L, lp, tp) Q := by
  obtain ⟨h1, ⟨h2, h2'⟩, h3, h4, h5⟩ := hc
  have hc : q_ZC I lp z := ⟨h1, ⟨h2, h2'⟩, h3, h4, h5⟩
  refine v_goRound (k := k + 9) ?_
  rw [h3, h4]
  rcases h2' with ⟨e, hrd⟩ | ⟨w, e, hw, hrd⟩
  · rw [e]
    exact ⟨by decide, fun _ => s_along hZ.1 h1 (Or.inl ⟨rfl, hrd⟩) hZ.2.1 hZ.2.2.1 h5 hZ.2.2.2.1 (fun I' f' W' => ⟨rfl, hq I' f' (q_ZC_fK hZ hc f') W'⟩), fun q => absurd q (by decide)⟩
  · rw [e]
    have hw4 : w = 0 ∨ w = 1 ∨ w = 2 ∨ w = 3 := by omega
    refine ⟨⟨by omega, by omega⟩, fun q => by omega, fun _ => ⟨⟨by omega, by omega⟩, fun q => by omega, fun _ => ⟨⟨by omega, by omega⟩, ?_, ?_⟩⟩⟩
    · rcases hw4 with rfl | rfl | rfl | rfl <;> decide
    · have ex : x_r0 149 ((w : Int)).toNat = 150 + w := by rcases hw4 with rfl | rfl | rfl | rfl <;> rfl
      rw [ex]
      exact s_along hZ.1 h1 (Or.inr ⟨by omega, fun x hx => ⟨hrd x hx, hZ.2.2.2.2 x hx⟩⟩) hZ.2.1 hZ.2.2.1 h5 hZ.2.2.2.1 (fun I' f' W' => ⟨rfl, hq I' f' (q_ZC_fK hZ hc f') W'⟩)
theorem m_goNow {g : x_G} {k : Nat} {Q : x_Q} {I L : Nat → Nat → Int} {lp tp : Nat} {z : q_Z} {FA : Nat → q_AV} {nl : Nat} (hk : 97 ≤ k) (hZ : q_Zk z) (hm : q_ZM I L z FA nl) (hq : ∀ I' L' tp', x_fr q_fD I I' → q_Lo L L' → q_ZM I' L' z FA nl → q_Wm I' (q_zy z) (q_zs z) → Q [] (I', L', lp, tp')) : x_X g k 232 [x_r 179] (I, L, lp, tp) Q := by
  obtain ⟨k, rfl⟩ : ∃ k', k = k' + 1 := ⟨k - 1, by omega⟩
  obtain ⟨h1, h2, h3, h4, h5⟩ := hm
  refine v_goNow (m_goRound (by omega) hZ.1 h1 ?_ (Or.inr ⟨rfl, h3⟩) h4 h5 hZ.2.2.1 hZ.2.2.2.1 (fun I' L' tp' f' hL' hY' hW' => ⟨rfl, hq I' L' tp' f' hL' (q_ZM_fD ⟨h1, h2, h3, h4, h5⟩ f' hY') hW'⟩))
  rcases h2 with q | ⟨w, a1, a2, a3⟩
  · exact Or.inl q
  · exact Or.inr ⟨w, a1, by omega, a3⟩
theorem q_Si_go {y : q_Y} (hY : q_Yk y) : ∀ (l : List Nat) (s : q_S), (∀ r ∈ l, r < q_yR y) → q_Si y s → q_Si y (q_go y s l)
  | [], s, _, hs => hs
  | r :: l, s, hl, hs => q_Si_go hY l (q_stp y s r) (fun x hx => hl x (List.mem_cons_of_mem _ hx)) (q_Si_stp hY hs (hl r List.mem_cons_self))
theorem q_zs_ok {z : q_Z} (hZ : q_Zk z) : q_Si (q_zy z) (q_zs z) := q_Si_go hZ.1 _ _ (fun r hr => (q_vis_lt _ _ _ _ _ r hr).1) (q_Si_0 _ hZ.2.2.1 hZ.2.2.2.1)
theorem q_go_n (y : q_Y) : ∀ (l : List Nat) (s : q_S), q_sn (q_go y s l) = q_sn s + (l.length : Int)
  | [], s => by show q_sn s = q_sn s + 0; omega
  | r :: l, s => by
    rw [q_go, q_go_n y l, List.length_cons]
    show q_sn s + 1 + _ = _
    omega
theorem q_zs_n {z : q_Z} : q_sn (q_zs z) ≤ 8 := by
  have := q_vis_len (q_yR (q_zy z)) (q_zd z) (q_zr z) 8 0
  unfold q_zs
  rw [q_go_n]
  show (0 : Int) + ((q_zv z).length : Int) ≤ 8
  unfold q_zv
  omega
/-- by room: minutes, heat, cups of those to which it came -/
theorem q_go_rg {y : q_Y} (hY : q_Yk y) : ∀ (l : List Nat) (s : q_S), (∀ r ∈ l, r < q_yR y) → q_Si y s → q_sn s + (l.length : Int) ≤ 8 → (∀ r, (q_sb s).testBit r = true → r < q_yR y ∧ (0 ≤ q_sM s r ∧ q_sM s r ≤ 2000) ∧ (0 ≤ q_sH s r ∧ q_sH s r ≤ 99)) → (∀ r, 0 ≤ q_sP s r ∧ q_sP s r ≤ 60) → (∀ r, (q_sb (q_go y s l)).testBit r = true → r < q_yR y ∧ (0 ≤ q_sM (q_go y s l) r ∧ q_sM (q_go y s l) r ≤ 2000) ∧ (0 ≤ q_sH (q_go y s l) r ∧ q_sH (q_go y s l) r ≤ 99)) ∧ ∀ r, 0 ≤ q_sP (q_go y s l) r ∧ q_sP (q_go y s l) r ≤ 60
  | [], s, _, _, _, h1, h2 => ⟨h1, h2⟩
  | r :: l, s, hl, hs, hn, h1, h2 => by
    rw [List.length_cons] at hn
    have hr := hl r List.mem_cons_self
    have hS := q_Si_stp hY hs hr
    refine q_go_rg hY l (q_stp y s r) (fun x hx => hl x (List.mem_cons_of_mem _ hx)) hS (by show q_sn s + 1 + _ ≤ 8; omega) (fun x hx => ?_) (fun x => ?_)
    · have hb : (q_sb s ||| 2 ^ r).testBit x = true := hx
      rw [q_or1_bit] at hb
      show x < q_yR y ∧ (0 ≤ q_up (q_sM s) r (q_sm s + q_ymi y (q_sf s) r) x ∧ q_up (q_sM s) r (q_sm s + q_ymi y (q_sf s) r) x ≤ 2000) ∧ (0 ≤ q_up (q_sH s) r (q_sh (q_stp y s r)) x ∧ q_up (q_sH s) r (q_sh (q_stp y s r)) x ≤ 99)
      unfold q_up
      by_cases e : x = r
      · rw [if_pos e, if_pos e]
        obtain ⟨-, m1, m2⟩ := q_ymi_rg hY hs.1 hr
        obtain ⟨-, -, -, -, -, -, -, b1, b2, b3, -⟩ := hs
        exact ⟨by omega, ⟨by omega, by omega⟩, hS.2.1⟩
      · rw [if_neg e, if_neg e]
        exact h1 x (by simpa [Ne.symm e] using hb)
    · show 0 ≤ q_up (q_sP s) r (q_po y (q_sc s) r) x ∧ q_up (q_sP s) r (q_po y (q_sc s) r) x ≤ 60
      unfold q_up
      by_cases e : x = r
      · rw [if_pos e]
        obtain ⟨-, -, -, wk, -⟩ := q_yto_rg hY hr
        obtain ⟨-, -, c1, c2, c3, -⟩ := hs
        unfold q_po
        omega
      · rw [if_neg e]; exact h2 x
theorem q_zs_rg {z : q_Z} (hZ : q_Zk z) : (∀ r, (q_sb (q_zs z)).testBit r = true → r < q_yR (q_zy z) ∧ (0 ≤ q_sM (q_zs z) r ∧ q_sM (q_zs z) r ≤ 2000) ∧ (0 ≤ q_sH (q_zs z) r ∧ q_sH (q_zs z) r ≤ 99)) ∧ ∀ r, 0 ≤ q_sP (q_zs z) r ∧ q_sP (q_zs z) r ≤ 60 := by
  refine q_go_rg hZ.1 _ _ (fun r hr => (q_vis_lt _ _ _ _ _ r hr).1) (q_Si_0 _ hZ.2.2.1 hZ.2.2.2.1) ?_ (fun r hb => ?_) (fun r => ⟨Int.le_refl _, by show (0 : Int) ≤ 60; decide⟩)
  · have := q_vis_len (q_yR (q_zy z)) (q_zd z) (q_zr z) 8 0
    show (0 : Int) + _ ≤ 8
    unfold q_zv
    omega
  · have : (0 : Nat).testBit r = true := hb
    simp at this
/-- rooms to which it did not come got nothing -/
theorem q_go_P0 (y : q_Y) : ∀ (l : List Nat) (s : q_S), (∀ r, (q_sb s).testBit r = false → q_sP s r = 0) → ∀ r, (q_sb (q_go y s l)).testBit r = false → q_sP (q_go y s l) r = 0
  | [], s, h => h
  | r :: l, s, h => by
    refine q_go_P0 y l (q_stp y s r) (fun x hx => ?_)
    have hb : (q_sb s ||| 2 ^ r).testBit x = false := hx
    rw [q_or1_bit] at hb
    have e : ¬ x = r := by intro e; subst e; simp at hb
    show q_up (q_sP s) r _ x = 0
    unfold q_up
    rw [if_neg e]
    exact h x (by simpa [Ne.symm e] using hb)
theorem q_zs_P0 (z : q_Z) : ∀ r, (q_sb (q_zs z)).testBit r = false → q_sP (q_zs z) r = 0 := q_go_P0 _ _ _ (fun _ _ => rfl)
