/-! shortest, by the reference -/
def q_e9 (b : Int × Int) : Int := if b.2 = 1000000 then -1 else b.2
theorem m_goShort {g : x_G} {lp : Nat} {y : q_Y} {FA : Nat → q_AV} {nl : Nat} (hY : q_Yk y) : ∀ (m rem k : Nat) (s : q_S) (row : Int) (b : Int × Int) (I L : Nat → Nat → Int) (tp : Nat) (Q : x_Q), q_pc rem = m + 1 → rem < 256 → (∀ r, rem.testBit r = true → r < q_yR y) → 99 + 2 * m ≤ k → q_Ym I L y FA nl → q_Si y s → q_W7 I s → q_sn s + ((m + 1 : Nat) : Int) ≤ 8 → q_rw row (m + 1) → I 179 48 = b.1 → I 179 49 = q_e9 b → q_b3 b → (∀ I' L' tp', x_fr q_fF I I' → q_Lo L L' → q_Ym I' L' y FA nl → q_W7 I' s → (∀ x, rem.testBit x = false → I' 193 x = I 193 x) → I' 179 48 = (q_ss y (m + 1) rem (q_sf s) (q_sm s) (q_sh s) (q_sc s) (q_sn s) row b).1 → I' 179 49 = q_e9 (q_ss y (m + 1) rem (q_sf s) (q_sm s) (q_sh s) (q_sc s) (q_sn s) row b) → Q [] (I', L', lp, tp')) → x_X g k 256 [x_r 179, x_i (rem : Int), x_i row] (I, L, lp, tp) Q := by
  intro m
  induction m using Nat.strongRecOn with
  | ind m ih =>
    intro rem k s row b I L tp Q hpc hrem hbit hk hYm hs hW hsn hw h48 h49 hb hq
    obtain ⟨k, rfl⟩ : ∃ k', k = k' + 2 := ⟨k - 2, by omega⟩
    have hR : q_yR y ≤ 8 := by rcases hY.1.1 with q | q <;> omega
    have hs0 := hs
    obtain ⟨s1, s2, s3, s4, s5, s6, s7, s8, s9, s10, -⟩ := hs
    rw [q_ss] at hq
    generalize hF : (fun (r : Nat) (b : Int × Int) => if rem.testBit r = true ∧ q_ah y r (q_yht y (q_sh s) (q_sf s) r (q_sc s) (q_sn s) 0) (q_sc s) then (if m = 0 then (if q_sm s + q_ymi y (q_sf s) r < b.2 then (10 * row + (r : Int), q_sm s + q_ymi y (q_sf s) r) else b) else q_ss y m (q_wo rem r) (r : Int) (q_sm s + q_ymi y (q_sf s) r + q_yto y (5 * r + 4)) (q_yht y (q_sh s) (q_sf s) r (q_sc s) (q_sn s) 0) (q_sc s - q_ywk y r) (q_sn s + 1) (10 * row + (r : Int)) b) else b) = F at hq
    have loop : ∀ (j i : Nat) (b : Int × Int) (J M : Nat → Nat → Int) (tq : Nat), i + j = q_yR y → x_fr q_fF I J → q_Lo L M → q_Ym J M y FA nl → q_W7 J s → (∀ x, rem.testBit x = false → J 193 x = I 193 x) → J 179 48 = b.1 → J 179 49 = q_e9 b → q_b3 b → (∀ I' L' tp', x_fr q_fF I I' → q_Lo L L' → q_Ym I' L' y FA nl → q_W7 I' s → (∀ x, rem.testBit x = false → I' 193 x = I 193 x) → I' 179 48 = (q_fd F j i b).1 → I' 179 49 = q_e9 (q_fd F j i b) → Q [] (I', L', lp, tp')) → x_S g (k + 2) 256 Q 17 [x_r 179, x_i (rem : Int), x_i row, x_i (q_sf s), x_i (q_sm s), x_i (q_sh s), x_i (q_sc s), x_i (q_so s), x_i (i : Int), x_n, x_n] [] (J, M, lp, tq) := by
      intro j
      induction j with
      | zero =>
        intro i b J M tq hm fJ lM hYJ WJ j193 j48 j49 hb hq
        refine v_goShort_L17 ?_
        rw [hYJ.1]
        exact ⟨⟨by omega, by omega⟩, ⟨by omega, by omega⟩, fun _ => hq J M tq fJ lM hYJ WJ j193 j48 j49, fun q => by omega⟩
      | succ j ihj =>
        intro i b J M tq hm fJ lM hYJ WJ j193 j48 j49 hb hq
        rw [q_fd] at hq
        have hFi : F i b = if rem.testBit i = true ∧ q_ah y i (q_yht y (q_sh s) (q_sf s) i (q_sc s) (q_sn s) 0) (q_sc s) then (if m = 0 then (if q_sm s + q_ymi y (q_sf s) i < b.2 then (10 * row + (i : Int), q_sm s + q_ymi y (q_sf s) i) else b) else q_ss y m (q_wo rem i) (i : Int) (q_sm s + q_ymi y (q_sf s) i + q_yto y (5 * i + 4)) (q_yht y (q_sh s) (q_sf s) i (q_sc s) (q_sn s) 0) (q_sc s - q_ywk y i) (q_sn s + 1) (10 * row + (i : Int)) b) else b := by rw [← hF]
        refine v_goShort_L17 ?_
        rw [hYJ.1, show ((i : Int)).toNat = i by omega, show ((rem : Int)).toNat = rem by omega, q_wo_eq rem i hrem (by omega), show (5 * (i : Int) + 3).toNat = 5 * i + 3 by omega]
        refine ⟨⟨by omega, by omega⟩, ⟨by omega, by omega⟩, fun q => by omega, fun q => ⟨⟨by omega, by omega⟩, ⟨by omega, by omega⟩, fun cb => ?_, fun cb => ?_⟩⟩
        · have hi := hbit i cb
          have wk := hY.2.2 i hi
          have hpo : 0 ≤ q_po y (q_sc s) i ∧ q_po y (q_sc s) i ≤ q_sc s := by unfold q_po; omega
          have hqp := q_pc_wo hrem (show i < 8 by omega) cb
          have hwl := q_wo_lt rem i hrem
          have hw' := q_rw_step hw (show i < 8 by omega)
          have hwr := q_rw_le hw'
          obtain ⟨-, m1, m2⟩ := q_ymi_rg hY s1 hi
          obtain ⟨-, t3, t4, -⟩ := q_yto_rg hY hi
          have bits : ∀ x, (q_wo rem i).testBit x = true → x < q_yR y := fun x hx => by
            rw [q_wo_bit rem i x hrem (by omega)] at hx
            exact hbit x (by simp at hx; exact hx.1)
          refine m_comesTo (by omega) hY hYJ hs0 (by omega) WJ hi (fun I4 L4 tp4 f4 l4 hY4 W4 h191 h192 h193 h42 => ⟨rfl, ?_⟩)
          have e193 : I4 193 i = q_po y (q_sc s) i := by rw [h193]; exact if_pos rfl
          have e192 : I4 192 i = q_yht y (q_sh s) (q_sf s) i (q_sc s) (q_sn s) 0 := by rw [h192]; exact if_pos rfl
          have e191 : I4 191 i = q_sm s + q_ymi y (q_sf s) i := by rw [h191]; exact if_pos rfl
          have e190 : I4 190 i = q_ywk y i := hY4.2.2.2.2.1 i hi
          have e186 : I4 186 (5 * i + 3) = q_yto y (5 * i + 3) := hY4.2.2.1 _ (by omega)
          have e48 : I4 179 48 = b.1 := (f4 _ _ rfl).trans j48
          have e49 : I4 179 49 = q_e9 b := (f4 _ _ rfl).trans j49
          have hht : 0 ≤ q_yht y (q_sh s) (q_sf s) i (q_sc s) (q_sn s) 0 ∧ q_yht y (q_sh s) (q_sf s) i (q_sc s) (q_sn s) 0 ≤ q_sh s := q_ht_rg s2
          have n193 : ∀ x, rem.testBit x = false → I4 193 x = I 193 x := fun x hx => by
            have hxi : ¬ x = i := fun e => by rw [e, cb] at hx; cases hx
            rw [h193 x]
            show q_up (J 193) i _ x = _
            unfold q_up
            rw [if_neg hxi]
            exact j193 x hx
          -- on the way back
          have back : ∀ (I7 L7 : Nat → Nat → Int) (tp7 : Nat) (b' : Int × Int), x_fr q_fF I I7 → q_Lo L L7 → q_Ym I7 L7 y FA nl → q_W7 I7 (q_stp y s i) → I7 193 i = q_po y (q_sc s) i → (∀ x, rem.testBit x = false → I7 193 x = I 193 x) → I7 179 48 = b'.1 → I7 179 49 = q_e9 b' → q_b3 b' → b' = F i b → x_X g k 253 [x_r 179, x_i (q_sf s), x_i (q_sm s), x_i (q_sh s), x_i (q_sc s), x_i (q_so s), x_i (i : Int)] (I7, L7, lp, tp7) (fun rv w4 => rv = [] ∧ x_S g (k + 2) 256 Q 17 [x_r 179, x_i (rem : Int), x_i row, x_i (q_sf s), x_i (q_sm s), x_i (q_sh s), x_i (q_sc s), x_i (q_so s), x_i ((i : Int) + 1), x_n, x_n] [] w4) := by
            intro I7 L7 tp7 b' f7 l7 hY7 W7 e193' n7 e48' e49' hb' hF'
            refine x_le (show 1 ≤ k by omega) (s_again (k := 0) hY7 (by omega) W7 e193' (fun I9 f9 e48'' e49'' n9 hY9 W9 => ⟨rfl, ?_⟩))
            exact ihj (i + 1) b' I9 L7 tp7 (by omega) (x_fr_trans f7 f9) l7 hY9 W9 (fun x hx => (n9 x).trans (n7 x hx)) (e48''.trans e48') (e49''.trans e49') hb' (by rw [hF']; exact hq)
          have f4' : x_fr q_fF I I4 := x_fr_trans fJ (x_fr_mono f4 rfl)
          have l4' : q_Lo L L4 := fun a k ha => (l4 a k ha).trans (lM a k ha)
          have nope : ¬ q_ah y i (q_yht y (q_sh s) (q_sf s) i (q_sc s) (q_sn s) 0) (q_sc s) → x_X g k 253 [x_r 179, x_i (q_sf s), x_i (q_sm s), x_i (q_sh s), x_i (q_sc s), x_i (q_so s), x_i (i : Int)] (I4, L4, lp, tp4) (fun rv w4 => rv = [] ∧ x_S g (k + 2) 256 Q 17 [x_r 179, x_i (rem : Int), x_i row, x_i (q_sf s), x_i (q_sm s), x_i (q_sh s), x_i (q_sc s), x_i (q_so s), x_i ((i : Int) + 1), x_n, x_n] [] w4) := fun c =>
            back I4 L4 tp4 b f4' l4' hY4 W4 e193 n193 e48 e49 hb (by rw [hFi, if_neg (fun h => c h.2)])
          have e9 : q_e9 b = -1 ∨ (0 ≤ q_e9 b ∧ q_e9 b ≤ 2000) := by unfold q_e9; unfold q_b3 at hb; split <;> omega
          have yes : q_ah y i (q_yht y (q_sh s) (q_sf s) i (q_sc s) (q_sn s) 0) (q_sc s) → (x_rg (q_wo rem i : Int)) ∧ (((q_wo rem i : Int) = 0 → (x_rg (I4 179 49)) ∧ (((I4 179 49) = (-1) → x_X g k 253 [x_r 179, x_i (q_sf s), x_i (q_sm s), x_i (q_sh s), x_i (q_sc s), x_i (q_so s), x_i (i : Int)] ((x_u (x_u I4 179 49 (I4 191 i)) 179 48 ((10 * row) + (i : Int))), L4, lp, tp4) (fun rv w16 => rv = [] ∧ x_S g (k + 2) 256 Q 17 [x_r 179, x_i (rem : Int), x_i row, x_i (q_sf s), x_i (q_sm s), x_i (q_sh s), x_i (q_sc s), x_i (q_so s), x_i ((i : Int) + 1), x_n, x_n] [] w16)) ∧ (¬ (I4 179 49) = (-1) → (x_rg (I4 191 i)) ∧ (((I4 179 49) ≤ (I4 191 i) → x_X g k 253 [x_r 179, x_i (q_sf s), x_i (q_sm s), x_i (q_sh s), x_i (q_sc s), x_i (q_so s), x_i (i : Int)] (I4, L4, lp, tp4) (fun rv w20 => rv = [] ∧ x_S g (k + 2) 256 Q 17 [x_r 179, x_i (rem : Int), x_i row, x_i (q_sf s), x_i (q_sm s), x_i (q_sh s), x_i (q_sc s), x_i (q_so s), x_i ((i : Int) + 1), x_n, x_n] [] w20)) ∧ ((I4 191 i) < (I4 179 49) → x_X g k 253 [x_r 179, x_i (q_sf s), x_i (q_sm s), x_i (q_sh s), x_i (q_sc s), x_i (q_so s), x_i (i : Int)] ((x_u (x_u I4 179 49 (I4 191 i)) 179 48 ((10 * row) + (i : Int))), L4, lp, tp4) (fun rv w23 => rv = [] ∧ x_S g (k + 2) 256 Q 17 [x_r 179, x_i (rem : Int), x_i row, x_i (q_sf s), x_i (q_sm s), x_i (q_sh s), x_i (q_sc s), x_i (q_so s), x_i ((i : Int) + 1), x_n, x_n] [] w23)))))) ∧ (¬ (q_wo rem i : Int) = 0 → x_X g k 256 [x_r 179, x_i (q_wo rem i : Int), x_i ((10 * row) + (i : Int))] (I4, L4, lp, tp4) (fun rv w26 => rv = [] ∧ x_X g k 253 [x_r 179, x_i (q_sf s), x_i (q_sm s), x_i (q_sh s), x_i (q_sc s), x_i (q_so s), x_i (i : Int)] w26 (fun rv w31 => rv = [] ∧ x_S g (k + 2) 256 Q 17 [x_r 179, x_i (rem : Int), x_i row, x_i (q_sf s), x_i (q_sm s), x_i (q_sh s), x_i (q_sc s), x_i (q_so s), x_i ((i : Int) + 1), x_n, x_n] [] w31)))) := by
            intro ca
            rw [if_pos ⟨cb, ca⟩] at hFi
            have hset : m = 0 → q_sm s + q_ymi y (q_sf s) i < b.2 → x_X g k 253 [x_r 179, x_i (q_sf s), x_i (q_sm s), x_i (q_sh s), x_i (q_sc s), x_i (q_so s), x_i (i : Int)] ((x_u (x_u I4 179 49 (I4 191 i)) 179 48 ((10 * row) + (i : Int))), L4, lp, tp4) (fun rv w16 => rv = [] ∧ x_S g (k + 2) 256 Q 17 [x_r 179, x_i (rem : Int), x_i row, x_i (q_sf s), x_i (q_sm s), x_i (q_sh s), x_i (q_sc s), x_i (q_so s), x_i ((i : Int) + 1), x_n, x_n] [] w16) := by
              intro hm0 hlt
              rw [if_pos hm0, if_pos hlt] at hFi
              refine back _ L4 tp4 (10 * row + (i : Int), q_sm s + q_ymi y (q_sf s) i) (x_fr_u (x_fr_u f4' rfl) rfl) l4' (q_Ym_u (q_Ym_u hY4 (by decide)) (by decide)) W4 e193 n193 rfl ?_ (Or.inr ⟨hwr, by dsimp only; omega⟩) hFi.symm
              show I4 191 i = _
              rw [e191, q_e9, if_neg (by dsimp only; omega)]
            refine ⟨⟨by omega, by omega⟩, fun c0 => ⟨by rw [e49]; constructor <;> omega, fun c1 => ?_, fun c1 => ⟨by rw [e191]; constructor <;> omega, fun c2 => ?_, fun c2 => ?_⟩⟩, fun c0 => ?_⟩
            · have hm0 : m = 0 := by have := (q_pc_0 hwl).mpr (by omega); omega
              rw [e49] at c1
              refine hset hm0 ?_
              unfold q_e9 at c1; unfold q_b3 at hb
              split at c1 <;> omega
            · have hm0 : m = 0 := by have := (q_pc_0 hwl).mpr (by omega); omega
              rw [e49] at c1
              rw [e49, e191] at c2
              refine back I4 L4 tp4 b f4' l4' hY4 W4 e193 n193 e48 e49 hb ?_
              rw [hFi, if_pos hm0, if_neg]
              have c3 : ¬ b.2 = 1000000 := fun e => c1 (by unfold q_e9; rw [if_pos e])
              unfold q_e9 at c2
              rw [if_neg c3] at c2
              omega
            · have hm0 : m = 0 := by have := (q_pc_0 hwl).mpr (by omega); omega
              rw [e49] at c1
              rw [e49, e191] at c2
              refine hset hm0 ?_
              have c3 : ¬ b.2 = 1000000 := fun e => c1 (by unfold q_e9; rw [if_pos e])
              unfold q_e9 at c2
              rw [if_neg c3] at c2
              omega
            · have hm0 : m ≠ 0 := fun e => c0 (by have := (q_pc_0 hwl).mp (by omega); omega)
              obtain ⟨m', rfl⟩ : ∃ m', m = m' + 1 := ⟨m - 1, by omega⟩
              rw [if_neg hm0] at hFi
              have hcw : q_po y (q_sc s) i = q_ywk y i := by unfold q_po; unfold q_ah at ca; omega
              have e : q_ss y (m' + 1) (q_wo rem i) (q_sf (q_stp y s i)) (q_sm (q_stp y s i)) (q_sh (q_stp y s i)) (q_sc (q_stp y s i)) (q_sn (q_stp y s i)) (10 * row + (i : Int)) b = F i b := by
                rw [hFi, ← hcw]
                rfl
              have hb' : q_b3 (F i b) := by
                rw [hFi]
                refine q_ss_b3 hY (m' + 1) _ _ _ _ _ _ _ b hwl bits (Or.inr ⟨by omega, by omega⟩) (by omega) (by omega) (by omega) hw' hb
              refine ih m' (by omega) (q_wo rem i) k (q_stp y s i) (10 * row + (i : Int)) b I4 L4 tp4 _ (by omega) hwl bits (by omega) hY4 (q_Si_stp hY hs0 hi) W4 (by show q_sn s + 1 + ((m' + 1 : Nat) : Int) ≤ 8; omega) hw' e48 e49 hb (fun I7 L7 tp7 f7 l7 hY7 W7 n7 e48' e49' => ⟨rfl, ?_⟩)
              rw [e] at e48' e49'
              refine back I7 L7 tp7 _ (x_fr_trans f4' f7) (fun a k ha => (l7 a k ha).trans (l4' a k ha)) hY7 W7 ?_ (fun x hx => ?_) e48' e49' hb' rfl
              · rw [n7 i (by rw [q_wo_bit rem i i hrem (by omega)]; simp), e193]
              · rw [n7 x (by rw [q_wo_bit rem i x hrem (by omega), hx]; rfl)]
                exact n193 x hx
          dsimp only
          rw [e193, e190, e192, e186]
          refine ⟨⟨by omega, by omega⟩, ⟨by omega, by omega⟩, ⟨by omega, by omega⟩, ⟨by omega, by omega⟩, fun c => nope ?_, fun c => ⟨fun c1 => yes (Or.inl c1), fun c1 => ⟨⟨by omega, by omega⟩, ?_, ⟨by omega, by omega⟩, fun c2 => nope ?_, fun c2 => yes (Or.inr ⟨?_, c2⟩)⟩⟩⟩
          · unfold q_po at c; unfold q_ah; omega
          · constructor <;> omega
          · unfold q_ah; omega
          · unfold q_po at c; omega
        · refine ihj (i + 1) b J M tq (by omega) fJ lM hYJ WJ j193 j48 j49 hb ?_
          rw [hFi, if_neg (fun h => cb h.1)] at hq
          exact hq
    obtain ⟨w1, w2, w3, w4, w5, w6, w7⟩ := hW
    refine v_goShort ?_
    rw [w1, w2, w3, w4, w6]
    exact loop (q_yR y) 0 b I L tp (Nat.zero_add _) (x_fr_refl _ _) (fun _ _ _ => rfl) hYm ⟨w1, w2, w3, w4, w5, w6, w7⟩ (fun _ _ => rfl) h48 h49 hb hq
theorem m_shortest {g : x_G} {k : Nat} {Q : x_Q} {I L : Nat → Nat → Int} {lp tp : Nat} {z : q_Z} {FA : Nat → q_AV} {nl : Nat} (hk : 130 ≤ k) (hZ : q_Zk z) (hm : q_ZM I L z FA nl) {s w : Int} (hs : x_rg s) (hw : x_rg w) (hq : ∀ I' L' tp', x_fr q_fG2 I I' → q_Lo L L' → q_LM I' L' FA nl → Q [x_i (q_aShort z s w)] (I', L', lp, tp')) : x_X g k 257 [x_r 179, x_i s, x_i w] (I, L, lp, tp) Q := by
  obtain ⟨k, rfl⟩ : ∃ k', k = k' + 2 := ⟨k - 2, by omega⟩
  have hR := q_ZR hZ
  have hp := q_pow8 hR
  have hm0 := q_ZM_0 hm 0
  have f0 : x_fr q_fG2 I (x_u I 179 0 0) := x_fr_u (x_fr_refl _ _) rfl
  unfold q_aShort at hq
  have no : ¬ ((1 ≤ s ∧ s < ((2 ^ q_yR (q_zy z) : Nat) : Int)) ∧ q_bit w) → Q [x_i (-1)] (x_u I 179 0 0, L, lp, tp) := fun h => by have := hq _ L tp f0 (fun _ _ _ => rfl) hm0.1.2.2.2.2.2.1; rw [if_neg h] at this; exact this
  refine v_shortestM ?_
  rw [hm.1.1, q_every _ (by omega)]
  refine ⟨hs, ⟨by omega, by omega⟩, fun q => ⟨hw, fun c => ?_, fun c => no (fun h => c (q_bit_in.mpr h.2))⟩, fun q => no (fun h => q ⟨h.1.1, by omega⟩)⟩
  obtain ⟨n, rfl⟩ := Int.eq_ofNat_of_zero_le (show 0 ≤ s by omega)
  obtain ⟨hn, hbit⟩ := q_set_ok (R := q_yR (q_zy z)) (n := n) hR (by omega)
  have hpc8 := q_pc_8 n
  have hpc1 : q_pc n ≠ 0 := fun e => by have := (q_pc_0 hn).mp e; omega
  obtain ⟨m, hpm⟩ : ∃ m, q_pc n = m + 1 := ⟨q_pc n - 1, by omega⟩
  have hb3 : q_b3 (q_sh2 z n) := q_ss_b3 hZ.1 (q_pc n) n (-1) 0 (q_zh z) (q_zc z) 0 0 (-1, 1000000) hn hbit (Or.inl rfl) (by decide) (by decide) (by omega) (q_rw8 _ hpc8) (Or.inl ⟨rfl, rfl⟩)
  refine x_le (show 1 ≤ k by omega) (m_setsOut (k := 0) hm0 (fun I1 f1 m1 W1 => ⟨rfl, ?_⟩))
  dsimp only
  have f2 : x_fr q_fG2 I (x_u (x_u I1 179 49 (-1)) 179 48 (-1)) := x_fr_u (x_fr_u (x_fr_trans f0 (x_fr_mono f1 rfl)) rfl) rfl
  refine m_goShort hZ.1 m n k (q_s0 (q_zh z) (q_zc z)) 0 (-1, 1000000) _ L tp _ hpm hn hbit (by omega) (q_Ym_u (q_Ym_u m1.1 (by decide)) (by decide)) (q_Si_0 _ hZ.2.2.1 hZ.2.2.2.1) W1 (by show (0 : Int) + _ ≤ 8; omega) (by rw [← hpm]; exact q_rw8 _ hpc8) rfl rfl (Or.inl ⟨rfl, rfl⟩) (fun I' L' tp' f' l' y' w' n' e48 e49 => ⟨rfl, ?_⟩)
  rw [← hpm] at e48 e49
  have e48' : I' 179 48 = (q_sh2 z n).1 := e48
  have e49' : I' 179 49 = q_e9 (q_sh2 z n) := e49
  have := hq I' L' tp' (x_fr_trans f2 (x_fr_mono f' rfl)) l' y'.2.2.2.2.2.1
  rw [if_pos ⟨⟨q.1, by omega⟩, q_bit_in.mp c⟩] at this
  refine ⟨fun c2 => ?_, fun c2 => ?_⟩
  · rw [if_neg c2] at this
    dsimp only
    rw [e49']
    rw [show q_e9 (q_sh2 z n) = if (q_sh2 z (n : Int).toNat).1 = -1 then -1 else (q_sh2 z (n : Int).toNat).2 from ?_]
    · exact this
    · rw [show ((n : Int)).toNat = n by omega]
      unfold q_e9; unfold q_b3 at hb3
      split <;> split <;> omega
  · rw [if_pos c2] at this
    dsimp only
    rw [e48']; exact this
