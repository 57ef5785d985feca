/-! the questions, at J -/
theorem x_nm {S : List (Nat × Nat × Nat)} {a : Nat} (k : Nat) (h : ∀ t ∈ S, t.1 ≠ a) : x_mem S a k = false := by
  cases e : x_mem S a k with
  | false => rfl
  | true =>
    obtain ⟨t, m1, m2, -⟩ := (x_mem_iff _ a k).mp e
    exact absurd m2.symm (h t m1)
theorem q_LM_S {S : List (Nat × Nat × Nat)} {I I' L : Nat → Nat → Int} {FA : Nat → q_AV} {nl : Nat} (hf : x_fr S I I') (hs : ∀ t ∈ S, t.1 ≠ 181 ∧ t.1 ≠ 182 ∧ t.1 ≠ 183 ∧ t.1 ≠ 195 ∧ t.1 < 5000) (h : q_LM I L FA nl) : q_LM I' L FA nl := q_LM_fr (S := []) h (fun k => hf 181 k (x_nm k fun t m => (hs t m).1)) (fun k => hf 182 k (x_nm k fun t m => (hs t m).2.1)) (fun k => hf 183 k (x_nm k fun t m => (hs t m).2.2.1)) (fun k => hf 195 k (x_nm k fun t m => (hs t m).2.2.2.1)) (x_fr_hi hf fun t m => (hs t m).2.2.2.2) (fun _ => rfl)
theorem q_LoR (L : Nat → Nat → Int) : q_Lo L L := fun _ _ _ => rfl
theorem q_LM_0 {I L : Nat → Nat → Int} {FA : Nat → q_AV} {nl : Nat} (h : q_LM I L FA nl) : q_LM (x_u I 179 0 0) L FA nl := q_LM_u h (by decide)
theorem j_comes {g : x_G} {k : Nat} {w0 : x_W} (hJ : q_J w0) {r w : Int} (hr : x_rg r) (hw : x_rg w) : q_call g (k + 140) 146 252 [x_i r, x_i w] w0 := by
  obtain ⟨I, L, lp, tp⟩ := w0
  obtain ⟨a, hP, hC, hB, hM⟩ := hJ
  dsimp only at hC hB hM
  have hZ := q_j_Zk hP
  exact q_ask1 (Sc := q_fK) (Sm := q_fE) hP hC hB hM (by decide +kernel) (by decide) (by decide +kernel) (by decide +kernel) (by decide +kernel) (by decide +kernel) (fun Q hq => x_le (show 15 ≤ k + 140 by omega) (c_comes (k := 0) hZ (q_j_ZC hP hC) hr hw hq)) (fun I1 Q C1 M1 hq => m_comes (by omega) hZ (q_j_ZM hP M1) hr hw hq)
theorem j_shares {g : x_G} {k : Nat} {w0 : x_W} (hJ : q_J w0) {r w : Int} (hr : x_rg r) (hw : x_rg w) : q_call g (k + 140) 147 267 [x_i r, x_i w] w0 := by
  obtain ⟨I, L, lp, tp⟩ := w0
  obtain ⟨a, hP, hC, hB, hM⟩ := hJ
  dsimp only at hC hB hM
  have hZ := q_j_Zk hP
  exact q_ask1 (Sc := q_fK) (Sm := q_fE) hP hC hB hM (by decide +kernel) (by decide) (by decide +kernel) (by decide +kernel) (by decide +kernel) (by decide +kernel) (fun Q hq => x_le (show 15 ≤ k + 140 by omega) (c_shares (k := 0) hZ (q_j_ZC hP hC) hr hw hq)) (fun I1 Q C1 M1 hq => m_shares (by omega) hZ (q_j_ZM hP M1) hr hw hq)
theorem j_season {g : x_G} {k : Nat} {w0 : x_W} (hJ : q_J w0) {r : Int} (hr : x_rg r) : q_call g (k + 140) 158 277 [x_i r] w0 := by
  obtain ⟨I, L, lp, tp⟩ := w0
  obtain ⟨a, hP, hC, hB, hM⟩ := hJ
  dsimp only at hC hB hM
  have hZ := q_j_Zk hP
  exact q_ask1 (Sc := q_fK) (Sm := q_fE) hP hC hB hM (by decide +kernel) (by decide) (by decide +kernel) (by decide +kernel) (by decide +kernel) (by decide +kernel) (fun Q hq => x_le (show 15 ≤ k + 140 by omega) (c_season (k := 0) hZ (q_j_ZC hP hC) hr hq)) (fun I1 Q C1 M1 hq => m_season (by omega) hZ (q_j_ZM hP M1) hr hq)
theorem j_game {g : x_G} {k : Nat} {w0 : x_W} (hJ : q_J w0) {a1 b1 x1 y1 w1 : Int} (ha1 : x_rg a1) (hb1 : x_rg b1) (hx1 : x_rg x1) (hy1 : x_rg y1) (hw1 : x_rg w1) : q_call g (k + 140) 151 271 [x_i a1, x_i b1, x_i x1, x_i y1, x_i w1] w0 := by
  obtain ⟨I, L, lp, tp⟩ := w0
  obtain ⟨a, hP, hC, hB, hM⟩ := hJ
  dsimp only at hC hB hM
  have hZ := q_j_Zk hP
  exact q_ask1 (Sc := q_fK) (Sm := q_fE) hP hC hB hM (by decide +kernel) (by decide) (by decide +kernel) (by decide +kernel) (by decide +kernel) (by decide +kernel) (fun Q hq => x_le (show 15 ≤ k + 140 by omega) (c_game (k := 0) hZ (q_j_ZC hP hC) ha1 hb1 hx1 hy1 hw1 hq)) (fun I1 Q C1 M1 hq => m_game (by omega) hZ (q_j_ZM hP M1) ha1 hb1 hx1 hy1 hw1 hq)
theorem j_rests {g : x_G} {k : Nat} {w0 : x_W} (hJ : q_J w0) {a1 b1 i1 : Int} (ha1 : x_rg a1) (hb1 : x_rg b1) (hi1 : x_rg i1) : q_call g (k + 140) 152 272 [x_i a1, x_i b1, x_i i1] w0 := by
  obtain ⟨I, L, lp, tp⟩ := w0
  obtain ⟨a, hP, hC, hB, hM⟩ := hJ
  dsimp only at hC hB hM
  have hZ := q_j_Zk hP
  exact q_ask1 (Sc := q_fK) (Sm := q_fE) hP hC hB hM (by decide +kernel) (by decide) (by decide +kernel) (by decide +kernel) (by decide +kernel) (by decide +kernel) (fun Q hq => x_le (show 15 ≤ k + 140 by omega) (c_rests (k := 0) hZ (q_j_ZC hP hC) ha1 hb1 hi1 hq)) (fun I1 Q C1 M1 hq => m_rests (by omega) hZ (q_j_ZM hP M1) ha1 hb1 hi1 hq)
theorem j_meet {g : x_G} {k : Nat} {w0 : x_W} (hJ : q_J w0) {r w : Int} (hr : x_rg r) (hw : x_rg w) : q_call g (k + 140) 155 273 [x_i r, x_i w] w0 := by
  obtain ⟨I, L, lp, tp⟩ := w0
  obtain ⟨a, hP, hC, hB, hM⟩ := hJ
  dsimp only at hC hB hM
  have hZ := q_j_Zk hP
  exact q_ask1 (Sc := q_fK) (Sm := q_fE) hP hC hB hM (by decide +kernel) (by decide) (by decide +kernel) (by decide +kernel) (by decide +kernel) (by decide +kernel) (fun Q hq => x_le (show 15 ≤ k + 140 by omega) (c_meet (k := 0) hZ (q_j_ZC hP hC) hr hw hq)) (fun I1 Q C1 M1 hq => m_meet (by omega) hZ (q_j_ZM hP M1) hr hw hq)
theorem j_thaw {g : x_G} {k : Nat} {w0 : x_W} (hJ : q_J w0) {r : Int} (hr : x_rg r) : q_call g (k + 140) 156 274 [x_i r] w0 := by
  obtain ⟨I, L, lp, tp⟩ := w0
  obtain ⟨a, hP, hC, hB, hM⟩ := hJ
  dsimp only at hC hB hM
  have hZ := q_j_Zk hP
  exact q_ask1 (Sc := q_fK) (Sm := q_fE) hP hC hB hM (by decide +kernel) (by decide) (by decide +kernel) (by decide +kernel) (by decide +kernel) (by decide +kernel) (fun Q hq => x_le (show 15 ≤ k + 140 by omega) (c_thaw (k := 0) hZ (q_j_ZC hP hC) hr hq)) (fun I1 Q C1 M1 hq => m_thaw (by omega) hZ (q_j_ZM hP M1) hr hq)
theorem j_crumbs {g : x_G} {k : Nat} {w0 : x_W} (hJ : q_J w0) {e i : Int} (he : x_rg e) (hi : x_rg i) : q_call g (k + 140) 148 266 [x_i e, x_i i] w0 := by
  obtain ⟨I, L, lp, tp⟩ := w0
  obtain ⟨a, hP, hC, hB, hM⟩ := hJ
  dsimp only at hC hB hM
  have hZ := q_j_Zk hP
  exact q_ask1 (Sc := q_fK) (Sm := q_fE) hP hC hB hM (by decide +kernel) (by decide) (by decide +kernel) (by decide +kernel) (by decide +kernel) (by decide +kernel) (fun Q hq => x_le (show 15 ≤ k + 140 by omega) (c_crumbs (k := 0) hZ (q_j_ZC hP hC) he hi hq)) (fun I1 Q C1 M1 hq => m_crumbs (by omega) hZ (q_j_Zd hP) (q_j_ZM hP M1) he hi hq)
theorem j_seat {g : x_G} {k : Nat} {w0 : x_W} (hJ : q_J w0) {w : Int} (hw : x_rg w) : q_call g (k + 140) 164 258 [x_i w] w0 := by
  obtain ⟨I, L, lp, tp⟩ := w0
  obtain ⟨a, hP, hC, hB, hM⟩ := hJ
  dsimp only at hC hB hM
  have hZ := q_j_Zk hP
  exact q_ask1 (Sc := q_fK) (Sm := q_fE) hP hC hB hM (by decide +kernel) (by decide) (by decide +kernel) (by decide +kernel) (by decide +kernel) (by decide +kernel) (fun Q hq => x_le (show 15 ≤ k + 140 by omega) (c_seat (k := 0) hZ (q_j_ZC hP hC) hw hq)) (fun I1 Q C1 M1 hq => m_seat (by omega) hZ (q_j_ZM hP M1) hw hq)
theorem j_odds {g : x_G} {k : Nat} {w0 : x_W} (hJ : q_J w0) {r w : Int} (hr : x_rg r) (hw : x_rg w) : q_call g (k + 140) 157 276 [x_i r, x_i w] w0 := by
  obtain ⟨I, L, lp, tp⟩ := w0
  obtain ⟨a, hP, hC, hB, hM⟩ := hJ
  dsimp only at hC hB hM
  have hZ := q_j_Zk hP
  exact q_ask1 (Sc := q_fK) (Sm := q_fE) hP hC hB hM (by decide +kernel) (by decide) (by decide +kernel) (by decide +kernel) (by decide +kernel) (by decide +kernel) (fun Q hq => x_le (show 60 ≤ k + 140 by omega) (c_odds (k := 0) hZ (q_j_ZC hP hC) hr hw hq)) (fun I1 Q C1 M1 hq => m_odds (by omega) hZ (q_j_ZM hP M1) hr hw hq)
theorem j_shortest {g : x_G} {k : Nat} {w0 : x_W} (hJ : q_J w0) {s w : Int} (hs : x_rg s) (hw : x_rg w) : q_call g (k + 140) 163 257 [x_i s, x_i w] w0 := by
  obtain ⟨I, L, lp, tp⟩ := w0
  obtain ⟨a, hP, hC, hB, hM⟩ := hJ
  dsimp only at hC hB hM
  have hZ := q_j_Zk hP
  exact q_ask1 (Sc := q_fU2) (Sm := q_fG2) hP hC hB hM (by decide +kernel) (by decide) (by decide +kernel) (by decide +kernel) (by decide +kernel) (by decide +kernel) (fun Q hq => x_le (show 60 ≤ k + 140 by omega) (c_shortest (k := 0) hZ (q_j_ZC hP hC) hs hw hq)) (fun I1 Q C1 M1 hq => m_shortest (by omega) hZ (q_j_ZM hP M1) hs hw hq)
theorem j_all {g : x_G} {k : Nat} {w0 : x_W} (hJ : q_J w0) {w : Int} (hw : x_rg w) : q_call g (k + 140) 159 279 [x_i w] w0 := by
  obtain ⟨I, L, lp, tp⟩ := w0
  obtain ⟨a, hP, hC, hB, hM⟩ := hJ
  dsimp only at hC hB hM
  have hZ := q_j_Zk hP
  obtain ⟨D, hN, -⟩ := q_Hk_d hP.2.2.2.1
  have h8 : ∀ r, r < j_R a → r < 8 := fun r hr => by have := q_R8 hP; omega
  exact q_ask1 (Sc := q_fK) (Sm := q_fE) hP hC hB hM (by decide +kernel) (by decide) (by decide +kernel) (by decide +kernel) (by decide +kernel) (by decide +kernel) (fun Q hq => x_le (show 15 ≤ k + 140 by omega) (c_all (k := 0) (fr := fun r => q_vN (j_v a) (8 + r)) hZ (q_j_ZC hP hC) (fun r hr => ⟨(hC.2.1.2.2.2.2.1.1 r (h8 r hr)).2, (hN.1 r (h8 r hr)).2.1⟩) (fun r h1 h2 => (hC.2.1.2.2.2.2.1.1 r h2).1.trans (hN.2.1 r h1 h2).1) hw hq)) (fun I1 Q C1 M1 hq => m_all (fr := fun r => q_vN (j_v a) (8 + r)) (by omega) hZ (q_j_ZM hP M1) (fun r hr => ⟨M1.2.1.2.2.2.2.2.2.2.1 (8 + r) (by have := h8 r hr; omega), (hN.1 r (h8 r hr)).2.1⟩) hw hq)
theorem j_happy {g : x_G} {k : Nat} {w0 : x_W} (hJ : q_J w0) {r : Int} (hr : x_rg r) : q_call g (k + 140) 166 282 [x_i r] w0 := by
  obtain ⟨I, L, lp, tp⟩ := w0
  obtain ⟨a, hP, hC, hB, hM⟩ := hJ
  dsimp only at hC hB hM
  have hZ := q_j_Zk hP
  have e15 : I 1 15 = (j_nr a : Int) := hC.2.1.2.2.1.1
  have n4 := hP.2.1.1
  exact q_ask1 (Sc := q_fK) (Sm := q_fE) hP hC hB hM (by decide +kernel) (by decide) (by decide +kernel) (by decide +kernel) (by decide +kernel) (by decide +kernel) (fun Q hq => x_le (show 15 ≤ k + 140 by omega) (c_happy (k := 0) hZ (q_j_ZC hP hC) hr (RD := j_RD a) (fun w hw x hx => ⟨hC.2.1.2.2.1.2 w (by omega) x hx, (hP.2.1.2.2 w (by omega)).1 x hx⟩) (by rw [e15]; exact hq))) (fun I1 Q C1 M1 hq => m_happy (by omega) hZ (q_j_ZM hP M1) hr (RD := j_RD a) (nr := (j_nr a : Int)) M1.2.1.2.2.2.2.2.1.1 (by omega) (fun w hw => M1.2.1.2.2.2.2.2.1.2 w (by omega)) hq)
theorem j_fits {g : x_G} {k : Nat} {w0 : x_W} (hJ : q_J w0) {i : Int} (hi : x_rg i) : q_call g (k + 140) 168 263 [x_i i] w0 := by
  obtain ⟨I, L, lp, tp⟩ := w0
  obtain ⟨a, hP, hC, hB, hM⟩ := hJ
  dsimp only at hC hB hM
  have hZ := q_j_Zk hP
  obtain ⟨la', sx1, sx2⟩ := hC.2.2.2.2.2.2.2.1
  have ea : q_aFits (j_z a) (j_es a) la' i = q_aFits (j_z a) (j_es a) (j_la a) i := by
    by_cases c : j_R a = 0
    · unfold q_aFits
      have c' : q_yR (q_zy (j_z a)) = 0 := c
      rw [if_neg (fun h => h.1 c'), if_neg (fun h => h.1 c')]
    · rw [sx2 c]
  exact q_ask1 (Sc := q_fB3) (Sm := q_fTt) hP hC hB hM (by decide +kernel) (by decide) (by decide +kernel) (by decide +kernel) (by decide +kernel) (by decide +kernel) (fun Q hq => x_le (show 80 ≤ k + 140 by omega) (c_fits (k := 0) hZ (q_j_ZC hP hC) sx1 hC.2.2.2.2.2.2.2.2.2.1 hi (fun I2 f2 => by rw [ea]; exact hq I2 f2))) (fun I1 Q C1 M1 hq => x_le (show 30 ≤ k + 140 by omega) (m_fits (k := 0) hZ (q_Yl_m (q_j_ZM hP M1).1) M1.2.2.2.2.2.2 hi (fun I2 f2 => hq I2 L tp f2 (q_LoR L) (q_LM_S f2 (by decide) M1.2.1.2.2.2.1))))
theorem j_second {g : x_G} {k : Nat} {w0 : x_W} (hJ : q_J w0)  : q_call g (k + 140) 169 264 [] w0 := by
  obtain ⟨I, L, lp, tp⟩ := w0
  obtain ⟨a, hP, hC, hB, hM⟩ := hJ
  dsimp only at hC hB hM
  have hZ := q_j_Zk hP
  obtain ⟨la', sx1, sx2⟩ := hC.2.2.2.2.2.2.2.1
  have ea : q_aSecond (j_z a) (j_es a) la'  = q_aSecond (j_z a) (j_es a) (j_la a)  := by
    by_cases c : j_R a = 0
    · unfold q_aSecond
      have c' : q_yR (q_zy (j_z a)) = 0 := c
      rw [if_neg (fun h => h c'), if_neg (fun h => h c')]
    · rw [sx2 c]
  exact q_ask1 (Sc := q_fB3) (Sm := q_fTt) hP hC hB hM (by decide +kernel) (by decide) (by decide +kernel) (by decide +kernel) (by decide +kernel) (by decide +kernel) (fun Q hq => x_le (show 80 ≤ k + 140 by omega) (c_second (k := 0) hZ (q_j_ZC hP hC) sx1 hC.2.2.2.2.2.2.2.2.2.1  (fun I2 f2 => by rw [ea]; exact hq I2 f2))) (fun I1 Q C1 M1 hq => x_le (show 30 ≤ k + 140 by omega) (m_second (k := 0) hZ (q_Yl_m (q_j_ZM hP M1).1) M1.2.2.2.2.2.2  (fun I2 f2 => hq I2 L tp f2 (q_LoR L) (q_LM_S f2 (by decide) M1.2.1.2.2.2.1))))
theorem j_ask {g : x_G} {k : Nat} {w0 : x_W} (hJ : q_J w0) {t : Int} (ht : x_rg t) : q_call g (k + 140) 170 265 [x_i t] w0 := by
  obtain ⟨I, L, lp, tp⟩ := w0
  obtain ⟨a, hP, hC, hB, hM⟩ := hJ
  dsimp only at hC hB hM
  have hZ := q_j_Zk hP
  obtain ⟨la', sx1, sx2⟩ := hC.2.2.2.2.2.2.2.1
  have ea : q_aAsk (j_z a) (j_es a) la' t = q_aAsk (j_z a) (j_es a) (j_la a) t := by
    by_cases c : j_R a = 0
    · unfold q_aAsk
      have c' : q_yR (q_zy (j_z a)) = 0 := c
      rw [if_neg (fun h => h.1 c'), if_neg (fun h => h.1 c')]
    · rw [sx2 c]
  exact q_ask1 (Sc := q_fB3) (Sm := q_fTt) hP hC hB hM (by decide +kernel) (by decide) (by decide +kernel) (by decide +kernel) (by decide +kernel) (by decide +kernel) (fun Q hq => x_le (show 80 ≤ k + 140 by omega) (c_ask (k := 0) hZ (q_j_ZC hP hC) sx1 hC.2.2.2.2.2.2.2.2.2.1 ht (fun I2 f2 => by rw [ea]; exact hq I2 f2))) (fun I1 Q C1 M1 hq => x_le (show 30 ≤ k + 140 by omega) (m_ask (k := 0) hZ (q_Yl_m (q_j_ZM hP M1).1) M1.2.2.2.2.2.2 ht (fun I2 f2 => hq I2 L tp f2 (q_LoR L) (q_LM_S f2 (by decide) M1.2.1.2.2.2.1))))
theorem j_rule {g : x_G} {k : Nat} {w0 : x_W} (hJ : q_J w0) {w : Int} (hw : x_rg w) : q_call g (k + 140) 126 234 [x_i w] w0 := by
  obtain ⟨I, L, lp, tp⟩ := w0
  obtain ⟨a, hP, hC, hB, hM⟩ := hJ
  dsimp only at hC hB hM
  have hZ := q_j_Zk hP
  exact q_ask1 (Sc := []) (Sm := [(179, 0, 1)]) hP hC hB hM (by decide +kernel) (by decide) (by decide +kernel) (by decide +kernel) (by decide +kernel) (by decide +kernel) (fun Q hq => x_le (show 2 ≤ k + 140 by omega) (c_rule (k := 0) hZ (q_j_ZC hP hC) hw (hq I (x_fr_refl _ _)))) (fun I1 Q C1 M1 hq => x_le (show 2 ≤ k + 140 by omega) (m_rule (k := 0) hZ (q_j_ZM hP M1) hw (hq _ L tp (x_fr_u (x_fr_refl _ _) rfl) (q_LoR L) (q_LM_0 M1.2.1.2.2.2.1))))
theorem j_steps {g : x_G} {k : Nat} {w0 : x_W} (hJ : q_J w0) {r s : Int} (hr : x_rg r) (hs : x_rg s) : q_call g (k + 140) 131 241 [x_i r, x_i s] w0 := by
  obtain ⟨I, L, lp, tp⟩ := w0
  obtain ⟨a, hP, hC, hB, hM⟩ := hJ
  dsimp only at hC hB hM
  have hZ := q_j_Zk hP
  exact q_ask1 (Sc := []) (Sm := [(179, 0, 1)]) hP hC hB hM (by decide +kernel) (by decide) (by decide +kernel) (by decide +kernel) (by decide +kernel) (by decide +kernel) (fun Q hq => x_le (show 2 ≤ k + 140 by omega) (c_steps (k := 0) hZ (q_j_ZC hP hC) hr hs (hq I (x_fr_refl _ _)))) (fun I1 Q C1 M1 hq => x_le (show 4 ≤ k + 140 by omega) (m_steps (k := 0) hZ (q_Yl_m (q_j_ZM hP M1).1) hr hs (hq _ L tp (x_fr_u (x_fr_refl _ _) rfl) (q_LoR L) (q_LM_0 M1.2.1.2.2.2.1))))
theorem j_floor {g : x_G} {k : Nat} {w0 : x_W} (hJ : q_J w0) {f : Int} (hf : x_rg f) : q_call g (k + 140) 171 280 [x_i f] w0 := by
  obtain ⟨I, L, lp, tp⟩ := w0
  obtain ⟨a, hP, hC, hB, hM⟩ := hJ
  dsimp only at hC hB hM
  have hZ := q_j_Zk hP
  exact q_ask1 (Sc := []) (Sm := [(179, 0, 1)]) hP hC hB hM (by decide +kernel) (by decide) (by decide +kernel) (by decide +kernel) (by decide +kernel) (by decide +kernel) (fun Q hq => x_le (show 2 ≤ k + 140 by omega) (c_floor (k := 0) hZ (q_j_ZC hP hC) hf (hq I (x_fr_refl _ _)))) (fun I1 Q C1 M1 hq => x_le (show 2 ≤ k + 140 by omega) (m_floor (k := 0) hZ (q_Yl_m (q_j_ZM hP M1).1) hf (hq _ L tp (x_fr_u (x_fr_refl _ _) rfl) (q_LoR L) (q_LM_0 M1.2.1.2.2.2.1))))
theorem j_nearest {g : x_G} {k : Nat} {w0 : x_W} (hJ : q_J w0) {r : Int} (hr : x_rg r) : q_call g (k + 140) 172 281 [x_i r] w0 := by
  obtain ⟨I, L, lp, tp⟩ := w0
  obtain ⟨a, hP, hC, hB, hM⟩ := hJ
  dsimp only at hC hB hM
  have hZ := q_j_Zk hP
  exact q_ask1 (Sc := []) (Sm := [(179, 0, 1)]) hP hC hB hM (by decide +kernel) (by decide) (by decide +kernel) (by decide +kernel) (by decide +kernel) (by decide +kernel) (fun Q hq => x_le (show 2 ≤ k + 140 by omega) (c_nearest (k := 0) hZ (q_j_ZC hP hC) hr (hq I (x_fr_refl _ _)))) (fun I1 Q C1 M1 hq => x_le (show 4 ≤ k + 140 by omega) (m_nearest (k := 0) hZ (q_Yl_m (q_j_ZM hP M1).1) hr (hq _ L tp (x_fr_u (x_fr_refl _ _) rfl) (q_LoR L) (q_LM_0 M1.2.1.2.2.2.1))))
theorem j_best {g : x_G} {k : Nat} {w0 : x_W} (hJ : q_J w0) {w : Int} (hw : x_rg w) : q_call g (k + 140) 162 255 [x_i w] w0 := by
  obtain ⟨I, L, lp, tp⟩ := w0
  obtain ⟨a, hP, hC, hB, hM⟩ := hJ
  dsimp only at hC hB hM
  have hZ := q_j_Zk hP
  refine x_le (show 50 ≤ k + 140 by omega) (c_best (k := 0) hZ (q_j_ZC hP hC) hB hw (fun I1 f1 b1 => ⟨_, rfl, ?_⟩))
  have C1 := q_JC_fr hP hC (x_fr_mono f1 (by decide +kernel))
  have M1 := q_JM_lo hP hM f1 (by decide)
  refine m_best (by omega) hZ (q_j_ZM hP M1) hw (fun I2 L2 tp2 f2 l2 m2 => ⟨rfl, ⟨a, hP, q_JC_fr hP C1 (x_fr_mono f2 (by decide +kernel)), ?_, q_JM_ag hP M1 (q_agM_fr f2 (by decide +kernel)) m2⟩, l2 203 0 (by decide)⟩)
  have e1 : I2 161 1 = I1 161 1 := f2 161 1 rfl
  have e3 : I2 161 3 = I1 161 3 := f2 161 3 rfl
  have e4 : I2 161 4 = I1 161 4 := f2 161 4 rfl
  show q_Bk I2 (j_z a)
  unfold q_Bk
  rw [e1, e3, e4]
  exact b1
theorem j_log {g : x_G} {k : Nat} {w0 : x_W} (hJ : q_J w0) {i w : Int} (hi : x_rg i) (hw : x_rg w) : q_call g (k + 140) 141 251 [x_i i, x_i w] w0 := by
  obtain ⟨I, L, lp, tp⟩ := w0
  obtain ⟨a, hP, hC, hB, hM⟩ := hJ
  dsimp only at hC hB hM
  obtain ⟨D, hN, hL⟩ := q_Hk_d hP.2.2.2.1
  have hD := hN.2.2.2.2.2.2.2.1
  have e23 : I 23 = q_vl (j_v a) := funext hC.2.1.2.2.2.2.2.2
  exact q_ask1 (z := q_aLog (q_vN (j_v a)) i w) (Sc := []) (Sm := [(179, 0, 1)]) hP hC hB hM (by decide +kernel) (by decide) (by decide +kernel) (by decide +kernel) (by decide +kernel) (by decide +kernel) (fun Q hq => x_le (show 4 ≤ k + 140 by omega) (c_log (k := 0) hD hC.2.1.2.2.2.2.1 (by rw [e23]; exact hL) hi hw (hq I (x_fr_refl _ _)))) (fun I1 Q C1 M1 hq => x_le (show 2 ≤ k + 140 by omega) (m_log (k := 0) hD ((M1.2.1.2.2.2.2.2.2.2.1 29 (by omega)).trans hL.2.1) hi hw (by
    have e : q_aLog (I1 190) i w = q_aLog (q_vN (j_v a)) i w := by
      unfold q_aLog
      have h9 := M1.2.1.2.2.2.2.2.2.2.1
      have l29 := hL.2.1
      rw [h9 29 (by omega)]
      by_cases c : (0 ≤ i ∧ i < q_vN (j_v a) 29) ∧ (0 ≤ w ∧ w ≤ 2)
      · rw [if_pos c, if_pos c]
        exact h9 _ (by omega)
      · rw [if_neg c, if_neg c]
    rw [e]
    exact hq _ L tp (x_fr_u (x_fr_refl _ _) rfl) (q_LoR L) (q_LM_0 M1.2.1.2.2.2.1))))
