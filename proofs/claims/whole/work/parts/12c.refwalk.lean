/-! The reference's walk -/
def q_W7 (I : Nat → Nat → Int) (s : q_S) : Prop := I 179 35 = q_sf s ∧ I 179 36 = q_sm s ∧ I 179 37 = q_sh s ∧ I 179 38 = q_sc s ∧ I 179 39 = q_sn s ∧ I 179 40 = q_so s ∧ I 179 41 = q_sq s
abbrev q_fD : List (Nat × Nat × Nat) := [(179, 8, 15), (179, 17, 18), (183, 0, 128), (195, 0, 8191), (179, 35, 43), (191, 0, 8), (192, 0, 8), (193, 0, 8)]
theorem q_Ym_eq {I I' L L' : Nat → Nat → Int} {y : q_Y} {FA : Nat → q_AV} {nl : Nat} (h : q_Ym I L y FA nl) (e24 : I' 179 24 = I 179 24) (e29 : I' 179 29 = I 179 29) (e184 : ∀ k, I' 184 k = I 184 k) (e186 : ∀ k, I' 186 k = I 186 k) (e190 : ∀ k, I' 190 k = I 190 k) (hL : q_LM I' L' FA nl) : q_Ym I' L' y FA nl := by
  obtain ⟨h1, h2, h3, h4, h5, h6, h7⟩ := h
  refine ⟨e24.trans h1, fun k hk => (e184 k).trans (h2 k hk), fun k hk => (e186 k).trans (h3 k hk), (e190 24).trans h4, fun r hr => (e190 r).trans (h5 r hr), hL, ?_⟩
  unfold q_LH
  rw [e29]
  exact h7
theorem q_LM_u {I L : Nat → Nat → Int} {FA : Nat → q_AV} {nl : Nat} (h : q_LM I L FA nl) {a k : Nat} {v : Int} (ha : a ≠ 181 ∧ a ≠ 182 ∧ a ≠ 183 ∧ a ≠ 195 ∧ a < 5000) : q_LM (x_u I a k v) L FA nl := q_LM_fr (S := []) h (fun _ => x_u_ne _ _ (by omega)) (fun _ => x_u_ne _ _ (by omega)) (fun _ => x_u_ne _ _ (by omega)) (fun _ => x_u_ne _ _ (by omega)) (fun _ _ _ => x_u_ne _ _ (by omega)) (fun _ => rfl)
theorem m_comesTo {g : x_G} {k : Nat} {Q : x_Q} {I L : Nat → Nat → Int} {lp tp : Nat} {y : q_Y} {FA : Nat → q_AV} {nl : Nat} (hk : 95 ≤ k) (hY : q_Yk y) (hm : q_Ym I L y FA nl) {s : q_S} (hs : q_Si y s) (hn : q_sn s ≤ 8) (hW : q_W7 I s) {r : Nat} (hr : r < q_yR y) (hq : ∀ I' L' tp', x_fr q_fD I I' → q_Lo L L' → q_Ym I' L' y FA nl → q_W7 I' (q_stp y s r) → (∀ x, I' 191 x = q_up (I 191) r (q_sm s + q_ymi y (q_sf s) r) x) → (∀ x, I' 192 x = q_up (I 192) r (q_sh (q_stp y s r)) x) → (∀ x, I' 193 x = q_up (I 193) r (q_po y (q_sc s) r) x) → I' 179 42 = x_and (I 179 42) (x_xor (x_shl 1 (r : Int)) (-1)) → Q [] (I', L', lp, tp')) : x_X g k 230 [x_r 179, x_i (r : Int)] (I, L, lp, tp) Q := by
  obtain ⟨k, rfl⟩ : ∃ k', k = k' + 2 := ⟨k - 2, by omega⟩
  obtain ⟨w1, w2, w3, w4, w5, w6, w7⟩ := hW
  obtain ⟨y1, y2, y3, y4, y5, y6, y7⟩ := hm
  obtain ⟨h1, h2, h3, h4, h5, h6, h7, h8, h9, h10, h11⟩ := hs
  obtain ⟨hst, m1, m2⟩ := q_ymi_rg hY h1 hr
  obtain ⟨t0, t3, t4, wk, r8⟩ := q_yto_rg hY hr
  have hR : q_yR y ≤ 8 := by rcases hY.1.1 with q | q <;> omega
  refine v_comesTo ?_
  rw [w1]
  refine x_le (show 2 ≤ k by omega) (m_stepsTo (k := 0) hY y3 h1 hr ⟨_, rfl, ?_⟩)
  dsimp only
  rw [w2, w3, w4, w5, y4]
  have em : q_yst y (q_sf s) r * q_ypa y = q_ymi y (q_sf s) r := rfl
  rw [em]
  have hm1 : q_Ym (x_u I 179 36 (q_sm s + q_ymi y (q_sf s) r)) L y FA nl := ⟨y1, y2, y3, y4, y5, q_LM_u y6 (by decide), y7⟩
  have fr1 : x_fr q_fD I (x_u I 179 36 (q_sm s + q_ymi y (q_sf s) r)) := x_fr_u (x_fr_refl _ _) rfl
  refine m_cools (by omega) hY hm1 hr ⟨⟨by omega, by omega⟩, h2, t0, ⟨by omega, by omega⟩, ⟨by omega, by omega⟩, ⟨by omega, by omega⟩⟩ (fun I5 L5 tp5 f5 hL5 hM5 => ⟨_, rfl, ?_⟩)
  dsimp only
  have rn : ((r : Int)).toNat = r := by omega
  have e38 : I5 179 38 = q_sc s := (f5 179 38 rfl).trans w4
  have e36 : I5 179 36 = q_sm s + q_ymi y (q_sf s) r := f5 179 36 rfl
  have e39 : I5 179 39 = q_sn s := (f5 179 39 rfl).trans w5
  have e40 : I5 179 40 = q_so s := (f5 179 40 rfl).trans w6
  have e41 : I5 179 41 = q_sq s := (f5 179 41 rfl).trans w7
  have e42 : I5 179 42 = I 179 42 := f5 179 42 rfl
  have e190 : I5 190 r = q_ywk y r := (f5 190 r rfl).trans (y5 r hr)
  have e1863 : I5 186 (5 * (r : Int) + 3).toNat = q_yto y (5 * r + 3) := by rw [show (5 * (r : Int) + 3).toNat = 5 * r + 3 by omega]; exact (f5 186 _ rfl).trans (y3 _ (by omega))
  have e1864 : I5 186 (5 * (r : Int) + 4).toNat = q_yto y (5 * r + 4) := by rw [show (5 * (r : Int) + 4).toNat = 5 * r + 4 by omega]; exact (f5 186 _ rfl).trans (y3 _ (by omega))
  have eh : max 0 (q_sh s - max 0 (min 99 (q_v (q_yru y) (q_ylo y) (q_ymi y (q_sf s) r) (q_sh s) (q_yto y (5 * r)) (q_yst y (q_sf s) r) (q_sc s) (q_sn s)))) = q_yht y (q_sh s) (q_sf s) r (q_sc s) (q_sn s) 0 := by
    unfold q_yht q_ht
    rw [Int.add_zero]
  have ehr : -99 ≤ q_sh s - max 0 (min 99 (q_v (q_yru y) (q_ylo y) (q_ymi y (q_sf s) r) (q_sh s) (q_yto y (5 * r)) (q_yst y (q_sf s) r) (q_sc s) (q_sn s))) ∧ q_sh s - max 0 (min 99 (q_v (q_yru y) (q_ylo y) (q_ymi y (q_sf s) r) (q_sh s) (q_yto y (5 * r)) (q_yst y (q_sf s) r) (q_sc s) (q_sn s))) ≤ 99 := by omega
  have hht := q_ht_rg (ru := q_yru y) (lo := q_ylo y) (m := q_ymi y (q_sf s) r + 0) (f := q_yto y (5 * r)) (d := q_yst y (q_sf s) r) (k := q_sc s) (n := q_sn s) h2
  have hht' : 0 ≤ q_yht y (q_sh s) (q_sf s) r (q_sc s) (q_sn s) 0 ∧ q_yht y (q_sh s) (q_sf s) r (q_sc s) (q_sn s) 0 ≤ q_sh s := hht
  refine ⟨⟨by omega, by omega⟩, ⟨by omega, by omega⟩, ⟨by omega, by omega⟩, ?_⟩
  rw [eh, rn, x_u_same, e38, e190, e1863, e1864, e36, e39, e40, e41, e42]
  have fr5 : x_fr q_fD I I5 := x_fr_trans fr1 (x_fr_mono f5 rfl)
  have mA : ∀ {a : Nat}, (a = 191 ∨ a = 192 ∨ a = 193) → x_mem q_fD a r = true := by
    intro a ha
    rcases ha with rfl | rfl | rfl
    · exact x_memI (191, 0, 8) (by simp) rfl (by simp) (by simp; omega)
    · exact x_memI (192, 0, 8) (by simp) rfl (by simp) (by simp; omega)
    · exact x_memI (193, 0, 8) (by simp) rfl (by simp) (by simp; omega)
  have e191 : ∀ x, I5 191 x = I 191 x := fun x => f5 191 x rfl
  have e192 : ∀ x, I5 192 x = I 192 x := fun x => f5 192 x rfl
  have e193 : ∀ x, I5 193 x = I 193 x := fun x => f5 193 x rfl
  have lm : ∀ {J : Nat → Nat → Int} {a k : Nat} {v : Int}, q_LM J L5 FA nl → (a = 179 ∨ a = 191 ∨ a = 192 ∨ a = 193) → q_LM (x_u J a k v) L5 FA nl := fun h ha => q_LM_u h (by omega)
  have hY5 : q_Ym I5 L5 y FA nl := q_Ym_eq hm1 (f5 _ _ rfl) (f5 _ _ rfl) (fun k => f5 184 k rfl) (fun k => f5 186 k rfl) (fun k => f5 190 k rfl) hM5
  refine ⟨⟨by omega, by omega⟩, ⟨by omega, by omega⟩, ⟨by omega, by omega⟩, ⟨by omega, by omega⟩, ⟨by omega, by omega⟩, fun q => ⟨⟨by omega, by omega⟩, ?_⟩, fun q => ⟨⟨by omega, by omega⟩, ?_⟩⟩
  · refine hq _ _ _ (x_fr_u (x_fr_u (x_fr_u (x_fr_u (x_fr_u (x_fr_u (x_fr_u (x_fr_u (x_fr_u (x_fr_u fr5 rfl) (mA (by omega))) (mA (by omega))) (mA (by omega))) rfl) rfl) rfl) rfl) rfl) rfl) hL5 (q_Ym_eq hY5 rfl rfl (fun _ => rfl) (fun _ => rfl) (fun _ => rfl) (lm (lm (lm (lm (lm (lm (lm (lm (lm (lm hM5 (by omega)) (by omega)) (by omega)) (by omega)) (by omega)) (by omega)) (by omega)) (by omega)) (by omega)) (by omega))) ⟨rfl, rfl, rfl, rfl, rfl, ?_, rfl⟩ (fun x => ?_) (fun x => ?_) (fun x => ?_) rfl
    · show I5 179 40 = q_so s + (if q_yto y (5 * r + 3) ≤ q_yht y (q_sh s) (q_sf s) r (q_sc s) (q_sn s) 0 then q_po y (q_sc s) r else 0)
      rw [if_neg (by omega), e40]; omega
    · simp only [x_u_eq, q_up, e191]; simp
    · simp only [x_u_eq, q_up, e192]; simp [q_stp]
    · simp only [x_u_eq, q_up, e193]; simp [q_po]
  · refine hq _ _ _ (x_fr_u (x_fr_u (x_fr_u (x_fr_u (x_fr_u (x_fr_u (x_fr_u (x_fr_u (x_fr_u (x_fr_u (x_fr_u fr5 rfl) (mA (by omega))) (mA (by omega))) (mA (by omega))) rfl) rfl) rfl) rfl) rfl) rfl) rfl) hL5 (q_Ym_eq hY5 rfl rfl (fun _ => rfl) (fun _ => rfl) (fun _ => rfl) (lm (lm (lm (lm (lm (lm (lm (lm (lm (lm (lm hM5 (by omega)) (by omega)) (by omega)) (by omega)) (by omega)) (by omega)) (by omega)) (by omega)) (by omega)) (by omega)) (by omega))) ⟨rfl, rfl, rfl, rfl, rfl, ?_, rfl⟩ (fun x => ?_) (fun x => ?_) (fun x => ?_) rfl
    · show q_so s + min (q_sc s) (q_ywk y r) = q_so s + (if q_yto y (5 * r + 3) ≤ q_yht y (q_sh s) (q_sf s) r (q_sc s) (q_sn s) 0 then q_po y (q_sc s) r else 0)
      rw [if_pos q]; rfl
    · simp only [x_u_eq, q_up, e191]; simp
    · simp only [x_u_eq, q_up, e192]; simp [q_stp]
    · simp only [x_u_eq, q_up, e193]; simp [q_po]
