/-! The class's walk -/
def q_Yc (I : Nat → Nat → Int) (lp : Nat) (y : q_Y) : Prop := q_Oc I (q_yR y) (q_yru y) (q_yto y) ∧ q_Lc I lp (q_ylo y) ∧ I 18 3 = q_ypa y ∧ ∀ r, r < q_yR y → I 19 r = q_ywk y r
abbrev q_dYc : List (Nat × Nat × Nat) := [(14, 3, 4), (15, 0, 4), (16, 0, 40), (17, 0, 72), (167, 2, 3), (168, 0, 240), (170, 2, 3), (171, 0, 240), (173, 2, 3), (174, 0, 240), (176, 2, 3), (177, 0, 240), (18, 3, 4), (19, 0, 8)]
theorem q_ag_sub {D E : List (Nat × Nat × Nat)} {I I' : Nat → Nat → Int} (h : q_ag D I I') (hs : x_sub E D = true) : q_ag E I I' := fun a k hm => h a k (x_sub_mem hs hm)
theorem q_Yc_ag {I I' : Nat → Nat → Int} {lp : Nat} {y : q_Y} (hY : q_Yk y) (h : q_Yc I lp y) (ha : q_ag q_dYc I I') : q_Yc I' lp y := by
  have hR : q_yR y ≤ 8 := by rcases hY.1.1 with q | q <;> omega
  obtain ⟨h1, h2, h3, h4⟩ := h
  exact ⟨q_Oc_ag hR h1 (q_ag_sub ha rfl), q_Lc_ag h2 (q_ag_sub ha rfl), (ha 18 3 rfl).trans h3, fun r hr => (q_ag_at ha (19, 0, 8) (by simp) (Nat.zero_le _) (show r < 8 by omega)).trans (h4 r hr)⟩
abbrev q_fK : List (Nat × Nat × Nat) := [(155, 0, 6), (167, 3, 4), (169, 0, 40), (170, 3, 4), (172, 0, 40), (173, 3, 4), (175, 0, 40), (176, 3, 4), (178, 0, 40), (156, 5, 13), (157, 0, 8), (158, 0, 8), (159, 0, 8), (160, 0, 8)]
theorem q_Yc_fK {I I' : Nat → Nat → Int} {lp : Nat} {y : q_Y} (hY : q_Yk y) (h : q_Yc I lp y) (hf : x_fr q_fK I I') : q_Yc I' lp y := q_Yc_ag hY h (x_fr_ag hf rfl)
theorem s_heat {g : x_G} {k : Nat} {Q : x_Q} {I L : Nat → Nat → Int} {lp tp : Nat} {y : q_Y} (hY : q_Yk y) (hc : q_Yc I lp y) {f h c n wb : Int} {t : Nat} (hf : f = -1 ∨ (0 ≤ f ∧ f < (q_yR y : Int))) (ht : t < q_yR y) (hh : 0 ≤ h ∧ h ≤ 99) (hcu : 0 ≤ c ∧ c ≤ 60) (hn : 0 ≤ n ∧ n ≤ 8) (hwb : 0 ≤ wb ∧ wb ≤ 5) (hq : ∀ I', x_fr q_fW I I' → Q [x_i (q_yht y h f t c n wb)] (I', L, lp, tp)) : x_X g (k + 6) 113 [x_r 154, x_i (q_fc f), x_i (t : Int), x_i h, x_i c, x_i n, x_i wb] (I, L, lp, tp) Q := by
  obtain ⟨h1, h2, h3, h4⟩ := hc
  exact s_heatBehind hY.1 h1 h2 h3 (hY.2.1 (by omega)) hf ht hh hcu hn hwb hq
def q_Wc (I : Nat → Nat → Int) (s : q_S) (vs : List Nat) : Prop := I 156 5 = q_sn s ∧ I 156 8 = (q_sb s : Int) ∧ I 156 9 = q_sq s ∧ I 156 10 = q_so s ∧ I 156 11 = q_sm s ∧ I 156 12 = q_sc s ∧ (∀ r, r < 8 → (q_sb s).testBit r = true → I 157 r = q_sM s r ∧ I 158 r = q_sH s r ∧ I 159 r = q_sP s r) ∧ q_sn s = (vs.length : Int) ∧ ∀ x, x < vs.length → I 160 x = ((vs.getD x 0 : Nat) : Int)
theorem q_getD_appN (t : List Nat) (b : Nat) (k : Nat) : (t ++ [b]).getD k 0 = if k = t.length then b else t.getD k 0 := by
  by_cases h : k < t.length
  · rw [if_neg (by omega)]
    simp [List.getD, List.getElem?_append_left h]
  · by_cases e : k = t.length
    · subst e; simp [List.getD]
    · rw [if_neg e]
      have h1 : (t ++ [b])[k]? = none := List.getElem?_eq_none (by simp; omega)
      have h2 : t[k]? = none := List.getElem?_eq_none (by omega)
      simp [List.getD, h1, h2]
/-- one room: behind the way -/
theorem s_step {g : x_G} {k : Nat} {Q : x_W → Prop} {I L : Nat → Nat → Int} {lp tp : Nat} {y : q_Y} (hY : q_Yk y) (hc : q_Yc I lp y) {s : q_S} {vs : List Nat} (hs : q_Si y s) (hn : q_sn s < 8) (hW : q_Wc I s vs) {r : Nat} (hr : r < q_yR y) (hq : ∀ I', x_fr q_fK I I' → q_Yc I' lp y → q_Wc I' (q_stp y s r) (vs ++ [r]) → Q (I', L, lp, tp)) : x_X g (k + 3) 105 [x_r 156, x_i (r : Int), x_i (q_sh (q_stp y s r))] (x_u I 156 11 (q_sm s + q_ymi y (q_sf s) r), L, lp, tp) (fun rv w10 => rv = [] ∧ ((0 ≤ (((r : Int) * 5) + 4) ∧ (((r : Int) * 5) + 4) < 40) ∧ Q ((x_u w10.1 156 11 ((w10.1 156 11) + (w10.1 16 (((((r : Int) * 5) + 4)).toNat)))), w10.2.1, w10.2.2.1, w10.2.2.2))) := by
  obtain ⟨w1, w2, w3, w4, w5, w6, w7, w8, w9⟩ := hW
  obtain ⟨h1, h2, h3, h4, h5, h6, h7, h8, h9, h10, h11⟩ := hs
  obtain ⟨t0, t3, t4, wk, r8⟩ := q_yto_rg hY hr
  have hS := q_Si_stp hY ⟨h1, h2, h3, h4, h5, h6, h7, h8, h9, h10, h11⟩ hr
  have hht := hS.2.1
  have rn : ((r : Int)).toNat = r := by omega
  have hR : q_yR y ≤ 8 := by rcases hY.1.1 with q | q <;> omega
  have e19 : I 19 r = q_ywk y r := hc.2.2.2 r hr
  have e163 : I 16 ((r : Int) * 5 + 3).toNat = q_yto y (5 * r + 3) := by rw [show ((r : Int) * 5 + 3).toNat = 5 * r + 3 by omega]; exact hc.1.2.2.1 _ (by omega)
  have e164 : I 16 ((r : Int) * 5 + 4).toNat = q_yto y (5 * r + 4) := by rw [show ((r : Int) * 5 + 4).toNat = 5 * r + 4 by omega]; exact hc.1.2.2.1 _ (by omega)
  have ob := q_or1 (q_sb s) r h11 r8
  generalize hz : q_sh (q_stp y s r) = z at *
  have hz2 : z = q_yht y (q_sh s) (q_sf s) r (q_sc s) (q_sn s) 0 := hz.symm
  have mA : ∀ {a x : Nat}, (a = 157 ∨ a = 158 ∨ a = 159 ∨ a = 160) → x < 8 → x_mem q_fK a x = true := by
    intro a x ha hx
    rcases ha with rfl | rfl | rfl | rfl
    · exact x_memI (157, 0, 8) (by simp) rfl (by simp) (by simp; omega)
    · exact x_memI (158, 0, 8) (by simp) rfl (by simp) (by simp; omega)
    · exact x_memI (159, 0, 8) (by simp) rfl (by simp) (by simp; omega)
    · exact x_memI (160, 0, 8) (by simp) rfl (by simp) (by simp; omega)
  refine v_arrive ?_
  show _ ∧ (x_rg (I 156 12)) ∧ (x_rg (I 19 _)) ∧ _
  rw [rn]
  have fin : ∀ (o : Int) (E : Nat → Nat → Int), o = q_so (q_stp y s r) → E = x_u (x_u (x_u (x_u (x_u (x_u (x_u (x_u (x_u (x_u I 156 11 (q_sm s + q_ymi y (q_sf s) r)) 157 r (q_sm s + q_ymi y (q_sf s) r)) 158 r z) 159 r (min (I 156 12) (I 19 r))) 156 9 (I 156 9 + min (I 156 12) (I 19 r))) 156 10 o) 156 12 (I 156 12 - min (I 156 12) (I 19 r))) 156 8 (x_or (I 156 8) (x_shl 1 (r : Int)))) 160 (I 156 5).toNat (r : Int)) 156 5 (I 156 5 + 1) → ([] : List x_V) = [] ∧ ((0 ≤ (((r : Int) * 5) + 4) ∧ (((r : Int) * 5) + 4) < 40) ∧ Q ((x_u E 156 11 ((E 156 11) + (E 16 (((((r : Int) * 5) + 4)).toNat)))), L, lp, tp)) := by
    intro o E ho hE
    subst hE
    refine ⟨rfl, ⟨by omega, by omega⟩, ?_⟩
    have hn5 : (I 156 5).toNat = vs.length := by rw [w1, w8]; omega
    have fr : x_fr q_fK I (x_u (x_u (x_u (x_u (x_u (x_u (x_u (x_u (x_u (x_u (x_u I 156 11 (q_sm s + q_ymi y (q_sf s) r)) 157 r (q_sm s + q_ymi y (q_sf s) r)) 158 r z) 159 r (min (I 156 12) (I 19 r))) 156 9 (I 156 9 + min (I 156 12) (I 19 r))) 156 10 o) 156 12 (I 156 12 - min (I 156 12) (I 19 r))) 156 8 (x_or (I 156 8) (x_shl 1 (r : Int)))) 160 (I 156 5).toNat (r : Int)) 156 5 (I 156 5 + 1)) 156 11 (q_sm s + q_ymi y (q_sf s) r + I 16 ((r : Int) * 5 + 4).toNat)) := x_fr_u (x_fr_u (x_fr_u (x_fr_u (x_fr_u (x_fr_u (x_fr_u (x_fr_u (x_fr_u (x_fr_u (x_fr_u (x_fr_refl _ _) rfl) (mA (by omega) r8)) (mA (by omega) r8)) (mA (by omega) r8)) rfl) rfl) rfl) rfl) (mA (by omega) (by omega))) rfl) rfl
    refine hq _ fr (q_Yc_fK hY hc fr) ⟨?_, ?_, ?_, ho, ?_, ?_, fun x hx hb => ?_, ?_, fun x hx => ?_⟩
    · show I 156 5 + 1 = q_sn s + 1
      rw [w1]
    · show x_or (I 156 8) (x_shl 1 (r : Int)) = ((q_sb s ||| 2 ^ r : Nat) : Int)
      rw [w2]; exact ob.1
    · show I 156 9 + min (I 156 12) (I 19 r) = q_sq s + min (q_sc s) (q_ywk y r)
      rw [w3, w6, e19]
    · show q_sm s + q_ymi y (q_sf s) r + I 16 ((r : Int) * 5 + 4).toNat = q_sm s + q_ymi y (q_sf s) r + q_yto y (5 * r + 4)
      rw [e164]
    · show I 156 12 - min (I 156 12) (I 19 r) = q_sc s - min (q_sc s) (q_ywk y r)
      rw [w6, e19]
    · have hb' : (q_sb s ||| 2 ^ r).testBit x = true := hb
      rw [q_or1_bit] at hb'
      show _ = q_up (q_sM s) r (q_sm s + q_ymi y (q_sf s) r) x ∧ _ = q_up (q_sH s) r (q_yht y (q_sh s) (q_sf s) r (q_sc s) (q_sn s) 0) x ∧ _ = q_up (q_sP s) r (min (q_sc s) (q_ywk y r)) x
      rw [← hz2]
      simp only [x_u_eq, q_up, w6, e19]
      by_cases e : x = r
      · subst e; simp
      · have hb2 : (q_sb s).testBit x = true := by simpa [Ne.symm e] using hb'
        simpa [e] using w7 x hx hb2
    · show q_sn s + 1 = _
      rw [w8, List.length_append]; rfl
    · rw [List.length_append, List.length_singleton] at hx
      rw [q_getD_appN]
      simp only [x_u_eq, hn5]
      by_cases e : x = vs.length
      · subst e; simp
      · simpa [e] using w9 x (by omega)
  refine ⟨⟨by omega, by omega⟩, by rw [w6]; exact ⟨by omega, by omega⟩, by rw [e19]; exact ⟨by omega, by omega⟩, ⟨by omega, by omega⟩, ⟨by omega, by omega⟩, ?_⟩
  show (x_rg (I 16 ((r : Int) * 5 + 3).toNat)) ∧ ((z < I 16 ((r : Int) * 5 + 3).toNat → _) ∧ (I 16 ((r : Int) * 5 + 3).toNat ≤ z → _))
  rw [e163]
  refine ⟨⟨by omega, by omega⟩, fun q => ⟨?_, ?_⟩, fun q => ⟨?_, ?_⟩⟩
  · show 0 ≤ I 156 5 ∧ I 156 5 < 8
    rw [w1]; omega
  · refine fin (I 156 10 + 0) _ ?_ rfl
    show _ = q_so s + (if q_yto y (5 * r + 3) ≤ q_yht y (q_sh s) (q_sf s) r (q_sc s) (q_sn s) 0 then q_po y (q_sc s) r else 0)
    rw [← hz2, if_neg (by omega), w4]
  · show 0 ≤ I 156 5 ∧ I 156 5 < 8
    rw [w1]; omega
  · refine fin (I 156 10 + min (I 156 12) (I 19 r)) _ ?_ rfl
    show _ = q_so s + (if q_yto y (5 * r + 3) ≤ q_yht y (q_sh s) (q_sf s) r (q_sc s) (q_sn s) 0 then q_po y (q_sc s) r else 0)
    rw [← hz2, if_pos q, w4, w6, e19]; rfl
theorem s_along_L {g : x_G} {k : Nat} {Q : x_Q} {L : Nat → Nat → Int} {lp tp : Nat} {y : q_Y} (hY : q_Yk y) {a sh : Nat} {rd : Nat → Int} (ha : a = 150 ∨ a = 151 ∨ a = 152 ∨ a = 153) (I0 : Nat → Nat → Int) (hrd : ∀ x, x < 8 → I0 a x = rd x ∧ -1 ≤ rd x ∧ rd x < 8) (hsh : sh < 2147483648) : ∀ (m i : Nat) (s : q_S) (vs : List Nat) (I : Nat → Nat → Int), i + m = 8 → x_fr q_fK I0 I → q_Yc I lp y → q_Si y s → q_sn s ≤ (i : Int) → q_Wc I s vs → (∀ I', x_fr q_fK I0 I' → q_Wc I' (q_go y s (q_vis (q_yR y) sh rd m i)) (vs ++ q_vis (q_yR y) sh rd m i) → Q [] (I', L, lp, tp)) → x_S g (k + 9) 104 Q 30 [x_r 156, x_r a, x_i (sh : Int), x_n, x_i (q_fc (q_sf s)), x_i (q_sh s), x_i (i : Int), x_n] [] (I, L, lp, tp)
  | 0, i, s, vs, I, hm, f, hc, hs, hsn, hW, hq => by
    have hk : x_kl (x_sh g.2.2 a).1 = true := by rcases ha with rfl | rfl | rfl | rfl <;> rfl
    have h8 : ((x_sh g.2.2 a).2 : Int) = 8 := by rcases ha with rfl | rfl | rfl | rfl <;> rfl
    refine v_along_L30 (k := k + 6) ?_
    rw [h8]
    refine ⟨hk, ⟨by omega, by omega⟩, by decide, fun _ => hq I f ?_, fun q => by omega⟩
    rw [q_vis, List.append_nil]; exact hW
  | m + 1, i, s, vs, I, hm, f, hc, hs, hsn, hW, hq => by
    have hk : x_kl (x_sh g.2.2 a).1 = true := by rcases ha with rfl | rfl | rfl | rfl <;> rfl
    have h8 : ((x_sh g.2.2 a).2 : Int) = 8 := by rcases ha with rfl | rfl | rfl | rfl <;> rfl
    have h100 : (x_sh g.2.2 a).1 = 100 := by rcases ha with rfl | rfl | rfl | rfl <;> rfl
    have hR : q_yR y ≤ 8 := by rcases hY.1.1 with q | q <;> omega
    obtain ⟨a1, a2, a3⟩ := hrd i (by omega)
    have fa : I a i = rd i := by rcases ha with rfl | rfl | rfl | rfl <;> exact (f _ i rfl).trans a1
    obtain ⟨w1, w2, w3, w4, w5, w6, w7, w8, w9⟩ := hW
    have hW : q_Wc I s vs := ⟨w1, w2, w3, w4, w5, w6, w7, w8, w9⟩
    have hs' := hs
    obtain ⟨h1, h2, h3, h4, h5, h6, h7, h8', h9, h10, h11⟩ := hs
    refine v_along_L30 (k := k + 6) ?_
    rw [h8, show ((i : Int)).toNat = i by omega, fa, w1, hc.1.1, w6]
    have skip : ¬ ((0 ≤ rd i ∧ rd i < (q_yR y : Int)) ∧ sh.testBit (rd i).toNat = false) → x_S g (k + 9) 104 Q 30 [x_r 156, x_r a, x_i (sh : Int), x_n, x_i (q_fc (q_sf s)), x_i (q_sh s), x_i ((i : Int) + 1), x_n] [] (I, L, lp, tp) := by
      intro hcn
      refine s_along_L hY ha I0 hrd hsh m (i + 1) s vs I (by omega) f hc hs' (by omega) hW (fun I' f' hW' => hq I' f' ?_)
      rw [q_vis, if_neg hcn]; exact hW'
    refine ⟨hk, ⟨by omega, by omega⟩, by decide, fun q => by omega, fun q => ⟨⟨by omega, by omega⟩, fun q2 => by omega, fun q2 => ⟨h100, ⟨by omega, by omega⟩, ⟨by omega, by omega⟩, fun q3 => skip (by omega), fun q3 => ⟨⟨by omega, by omega⟩, fun q4 => skip (by omega), fun q4 => ⟨⟨by omega, by omega⟩, ⟨by omega, by omega⟩, fun q5 => skip (fun z => ?_), fun q5 => ?_⟩⟩⟩⟩⟩
    · rw [show ((sh : Int)).toNat = sh by omega, z.2] at q5; cases q5
    · obtain ⟨r, hr⟩ := Int.eq_ofNat_of_zero_le q3
      have hrR : r < q_yR y := by omega
      have hsb : sh.testBit r = false := by
        rw [show ((sh : Int)).toNat = sh by omega, hr, show ((r : Int)).toNat = r by omega] at q5
        simpa using q5
      obtain ⟨d1, d2⟩ := q_fc_dist hR hc.1 h1 hrR
      have hvis : q_vis (q_yR y) sh rd (m + 1) i = r :: q_vis (q_yR y) sh rd m (i + 1) := by
        rw [q_vis, if_pos ⟨⟨q3, q4⟩, by rw [hr]; exact hsb⟩, hr]; rfl
      rw [hvis] at hq
      rw [hr]
      refine s_heat hY hc h1 hrR h2 ⟨h3, by omega⟩ ⟨h8', by omega⟩ ⟨by decide, by decide⟩ (fun I7 f7 => ⟨_, rfl, d1, ?_⟩)
      dsimp only
      have f7' : x_fr q_fK I I7 := x_fr_mono f7 rfl
      have c7 := q_Yc_fK hY hc f7'
      have W7 : q_Wc I7 s vs := ⟨(f7 _ _ rfl).trans w1, (f7 _ _ rfl).trans w2, (f7 _ _ rfl).trans w3, (f7 _ _ rfl).trans w4, (f7 _ _ rfl).trans w5, (f7 _ _ rfl).trans w6, fun x hx hb => by rw [f7 157 x rfl, f7 158 x rfl, f7 159 x rfl]; exact w7 x hx hb, w8, fun x hx => (f7 160 x rfl).trans (w9 x hx)⟩
      rw [W7.2.2.2.2.1, (q_fc_dist hR c7.1 h1 hrR).2, c7.2.2.1]
      refine x_le (show 3 ≤ k + 6 by omega) (s_step (k := 0) hY c7 hs' (by omega) W7 hrR (fun I8 f8 c8 W8 => ?_))
      exact s_along_L hY ha I0 hrd hsh m (i + 1) (q_stp y s r) (vs ++ [r]) I8 (by omega) (x_fr_trans (x_fr_trans f f7') f8) c8 (q_Si_stp hY hs' hrR) (by show q_sn s + 1 ≤ _; omega) W8 (fun I' f' hW' => hq I' f' (by rw [List.append_assoc] at hW'; exact hW'))
