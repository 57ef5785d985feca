/-! hold, wobble, law, round, count, seen, feed, end, at J -/
theorem q_Kc_s {S : List (Nat × Nat × Nat)} {I I' : Nat → Nat → Int} {lp R : Nat} {ru to : Nat → Int} {lo : Option q_F6} {nr : Nat} {RD : Nat → Nat → Int} {v : q_V} (hR : R ≤ 8) (hn : nr ≤ 4) (h : q_Kc I lp R ru to lo nr RD v) (hf : x_fr S I I') (hd : x_dj S (q_dKc ++ [(1, 16, 17), (18, 2, 8), (19, 0, 8), (20, 0, 8), (21, 4, 6)]) = true) (ha : ∀ t ∈ S, (t.1 < 28 ∨ 148 ≤ t.1) ∧ t.1 ≠ 23) : q_Kc I' lp R ru to lo nr RD v := by
  have hg := x_fr_ag hf hd
  have g18 : ∀ k, 2 ≤ k → k < 8 → I' 18 k = I 18 k := fun k h1 h2 => q_ag_at hg (18, 2, 8) (by decide) h1 h2
  have g19 : ∀ k, k < 8 → I' 19 k = I 19 k := fun k h2 => q_ag_at hg (19, 0, 8) (by decide) (Nat.zero_le _) h2
  have g20 : ∀ k, k < 8 → I' 20 k = I 20 k := fun k h2 => q_ag_at hg (20, 0, 8) (by decide) (Nat.zero_le _) h2
  refine q_Kc_ag hR hn h (q_ag_sub hg (by decide)) ((hg 1 16 rfl).trans h.2.2.2.1) (q_St_eq h.2.2.2.2.1 g18 (fun k hk => ⟨g19 k hk, g20 k hk⟩)) (q_Ac_fr h.2.2.2.2.2.1 (hg 21 4 rfl) (hg 21 5 rfl) (fun a k h1 h2 => hf a k (x_nm k fun t m e => ?_))) (fun x => (hf 23 x (x_nm x fun t m => (ha t m).2)).trans (h.2.2.2.2.2.2 x))
  have := (ha t m).1
  omega
theorem q_C1_s {S : List (Nat × Nat × Nat)} {I I' : Nat → Nat → Int} {j : Nat} {F : q_F6} (hj : j < 4) (h : q_C1 I j F) (hf : x_fr S I I') (hd : x_dj S [(167, 2, 3), (168, 0, 240), (170, 2, 3), (171, 0, 240), (173, 2, 3), (174, 0, 240), (176, 2, 3), (177, 0, 240)] = true) : q_C1 I' j F := by
  have hg := x_fr_ag hf hd
  rcases (show j = 0 ∨ j = 1 ∨ j = 2 ∨ j = 3 by omega) with rfl | rfl | rfl | rfl
  · exact q_C1_eq h (fun i hi => q_ag_at hg (168, 0, 240) (by decide) (Nat.zero_le _) hi) (hg 167 2 rfl)
  · exact q_C1_eq h (fun i hi => q_ag_at hg (171, 0, 240) (by decide) (Nat.zero_le _) hi) (hg 170 2 rfl)
  · exact q_C1_eq h (fun i hi => q_ag_at hg (174, 0, 240) (by decide) (Nat.zero_le _) hi) (hg 173 2 rfl)
  · exact q_C1_eq h (fun i hi => q_ag_at hg (177, 0, 240) (by decide) (Nat.zero_le _) hi) (hg 176 2 rfl)
theorem q_St24_s {S : List (Nat × Nat × Nat)} {I I' : Nat → Nat → Int} {N : Nat → Int} (h : q_St I 24 N) (hf : x_fr S I I') (ha : ∀ t ∈ S, t.1 < 24 ∨ 27 ≤ t.1) : q_St I' 24 N := q_St_eq h (fun k _ _ => hf 24 k (x_nm k fun t m e => by have := ha t m; omega)) (fun k _ => ⟨hf 25 k (x_nm k fun t m e => by have := ha t m; omega), hf 26 k (x_nm k fun t m e => by have := ha t m; omega)⟩)
theorem q_Sx_s {S : List (Nat × Nat × Nat)} {I I' : Nat → Nat → Int} {R : Nat} {es la : Nat → Int} (h : q_Sx I R es la) (hf : x_fr S I I') (ha : ∀ t ∈ S, t.1 ≠ 163 ∧ t.1 ≠ 164) : q_Sx I' R es la := q_Sx_eq h (fun r => hf 163 r (x_nm r fun t m => (ha t m).1)) (fun r => hf 164 r (x_nm r fun t m => (ha t m).2))
theorem q_Sm_s {S : List (Nat × Nat × Nat)} {I I' : Nat → Nat → Int} {es la : Nat → Int} {n : Nat} (h : q_Sm I es la n) (hf : x_fr S I I') (e55 : x_mem S 179 55 = false) (ha : ∀ t ∈ S, t.1 ≠ 197 ∧ t.1 ≠ 198 ∧ t.1 ≠ 201) : q_Sm I' es la n := by
  obtain ⟨s1, s2, s3, s4⟩ := h
  have e197 : ∀ k, I' 197 k = I 197 k := fun k => hf 197 k (x_nm k fun t m => (ha t m).1)
  have e198 : ∀ k, I' 198 k = I 198 k := fun k => hf 198 k (x_nm k fun t m => (ha t m).2.1)
  have e201 : ∀ k, I' 201 k = I 201 k := fun k => hf 201 k (x_nm k fun t m => (ha t m).2.2)
  refine ⟨(hf 179 55 e55).trans s1, s2, fun k hk => by rw [e197, e198, e201]; exact s3 k hk, fun r hr T t0 t1 => ?_⟩
  exact (s4 r hr T t0 t1).trans ⟨fun h k hk => by rw [e197, e198, e201]; exact h k hk, fun h k hk => by have := h k hk; rw [e197, e198, e201] at this; exact this⟩
/-- the reference's cells but its tape, sights and image -/
theorem q_Km_s {S : List (Nat × Nat × Nat)} {I I' L : Nat → Nat → Int} {FA : Nat → q_AV} {nl R : Nat} {ru to : Nat → Int} {lo : Option q_F6} {nr : Nat} {RD : Nat → Nat → Int} {v : q_V} (h : q_Km I L FA nl R ru to lo nr RD v) (hf : x_fr S I I') (hd : x_dj S [(179, 24, 25), (179, 26, 27), (179, 29, 31), (179, 46, 47)] = true) (ha : ∀ t ∈ S, (t.1 ≠ 181 ∧ t.1 ≠ 182 ∧ t.1 ≠ 183 ∧ t.1 ≠ 195 ∧ t.1 < 5000) ∧ t.1 ≠ 184 ∧ t.1 ≠ 186 ∧ t.1 ≠ 188 ∧ t.1 ≠ 189 ∧ t.1 ≠ 190 ∧ t.1 ≠ 196) : q_Km I' L FA nl R ru to lo nr RD v := by
  have hg := x_fr_ag hf hd
  have hA := h.2.2.2.2.2.2.2.2
  exact q_Km_eq h (hg _ _ rfl) (hg _ _ rfl) (hg _ _ rfl) (fun k => hf 184 k (x_nm k fun t m => (ha t m).2.1)) (fun k => hf 186 k (x_nm k fun t m => (ha t m).2.2.1)) (fun k => hf 188 k (x_nm k fun t m => (ha t m).2.2.2.1)) (fun k => hf 189 k (x_nm k fun t m => (ha t m).2.2.2.2.1)) (q_LM_S hf (fun t m => (ha t m).1) h.2.2.2.1) ((hg _ _ rfl).trans h.2.2.2.2.2.2.1) (fun x hx => (hf 190 x (x_nm x fun t m => (ha t m).2.2.2.2.2.1)).trans (h.2.2.2.2.2.2.2.1 x hx)) ⟨(hg _ _ rfl).trans hA.1, hA.2.1, fun j hj k hk => (hf 196 _ (x_nm _ fun t m => (ha t m).2.2.2.2.2.2)).trans (hA.2.2 j hj k hk)⟩
theorem q_J_same {I L : Nat → Nat → Int} {lp tp : Nat} {a : q_A} (hP : q_JP a) (hC : q_JC I lp a) (hB : q_Bk I (j_z a)) (hM : q_JM I L a) : q_J (x_u I 179 0 0, L, lp, tp) := q_J_end (S := [(179, 0, 1)]) hP hC hB (x_fr_u (x_fr_refl _ _) rfl) (by decide +kernel) (by decide +kernel) (q_JM_0 hP hM)
theorem j_hold {g : x_G} {k : Nat} {w0 : x_W} (hJ : q_J w0) {i : Int} (hi : x_rg i) : q_call g (k + 140) 128 238 [x_i i] w0 := by
  obtain ⟨I, L, lp, tp⟩ := w0
  obtain ⟨a, hP, hC, hB, hM⟩ := hJ
  dsimp only at hC hB hM
  have hR := q_R8 hP
  have n4 := hP.2.1.1
  have e15 : I 1 15 = (j_nr a : Int) := hC.2.1.2.2.1.1
  have m26 : I 179 26 = (j_nr a : Int) := hM.2.1.2.2.2.2.2.1.1
  have no : (∀ z : Int, i < -1 ∨ (j_nr a : Int) ≤ i → x_X g (k + 140) 238 [x_r 179, x_i i] (I, L, lp, tp) (fun rv w2 => rv = [x_i 0] ∧ q_J w2 ∧ w2.2.1 203 0 = L 203 0)) := fun _ c => by
    refine x_le (show 2 ≤ k + 140 by omega) (v_holdM (k := 0) ?_)
    rw [m26]
    exact ⟨hi, fun c1 => by omega, fun c1 => ⟨fun c2 => ⟨rfl, q_J_same hP hC hB hM, rfl⟩, fun c2 => ⟨⟨by omega, by omega⟩, fun c3 => ⟨rfl, q_J_same hP hC hB hM, rfl⟩, fun c3 => by omega⟩⟩⟩
  refine x_le (show 1 ≤ k + 140 by omega) (v_hold (k := 0) ?_)
  rw [e15]
  refine ⟨hi, fun c => ⟨0, rfl, no 0 (by omega)⟩, fun c => ⟨⟨by omega, by omega⟩, fun c1 => ⟨1, rfl, ?_⟩, fun c1 => ⟨0, rfl, no 0 (by omega)⟩⟩⟩
  have f1 : x_fr [(1, 16, 17)] I (x_u I 1 16 i) := x_fr_u (x_fr_refl _ _) rfl
  have hP' : q_JP (q_setv a (q_vN (j_v a), q_vH (j_v a), q_vn (j_v a), q_vl (j_v a), i)) := q_JP_v hP hP.2.2.2.1 ⟨n4, show i = -1 ∨ (0 ≤ i ∧ i < (j_nr a : Int)) by omega, hP.2.1.2.2⟩
  have C1 : q_JC (x_u I 1 16 i) lp (q_setv a (q_vN (j_v a), q_vH (j_v a), q_vn (j_v a), q_vl (j_v a), i)) := q_JC_v hP hC (x_fr_mono f1 (by decide +kernel)) (q_Kc_rh hR n4 hC.2.1 i)
  have M1 := q_JM_lo hP hM f1 (by decide)
  have hB' : q_Bk (x_u I 1 16 i) (j_z (q_setv a (q_vN (j_v a), q_vH (j_v a), q_vn (j_v a), q_vl (j_v a), i))) := hB
  have m26' : x_u I 1 16 i 179 26 = (j_nr a : Int) := m26
  have fin : q_J (x_u (x_u (x_u I 1 16 i) 179 0 0) 179 30 i, L, lp, tp) := by
    have f2 : x_fr [(179, 0, 1), (179, 30, 31)] (x_u I 1 16 i) (x_u (x_u (x_u I 1 16 i) 179 0 0) 179 30 i) := x_fr_u (x_fr_u (x_fr_refl _ _) rfl) rfl
    exact q_J_end hP' C1 hB' f2 (by decide +kernel) (by decide +kernel) (q_JM_v M1 (x_fr_mono f2 (by decide +kernel)) (q_Km_rh (q_Km_0 M1.2.1) i))
  refine x_le (show 2 ≤ k + 140 by omega) (v_holdM (k := 0) ?_)
  rw [m26']
  exact ⟨hi, fun c2 => ⟨rfl, fin, rfl⟩, fun c2 => ⟨fun c3 => by omega, fun c3 => ⟨⟨by omega, by omega⟩, fun c4 => by omega, fun c4 => ⟨rfl, fin, rfl⟩⟩⟩⟩
theorem j_wobble {g : x_G} {k : Nat} {w0 : x_W} (hJ : q_J w0) {w : Int} (hw : x_rg w) : q_call g (k + 140) 130 240 [x_i w] w0 := by
  obtain ⟨I, L, lp, tp⟩ := w0
  obtain ⟨a, hP, hC, hB, hM⟩ := hJ
  dsimp only at hC hB hM
  have hR := q_R8 hP
  have hb := hP.2.2.1
  have e17 : I 1 17 = j_wb a := hC.2.2.2.2.2.1
  have m31 : I 179 31 = j_wb a := hM.2.2.2.2.1
  have no : ¬ ((0 ≤ w ∧ w ≤ 9) ∧ ¬ w = j_wb a) → x_X g (k + 140) 240 [x_r 179, x_i w] (I, L, lp, tp) (fun rv w2 => rv = [x_i 0] ∧ q_J w2 ∧ w2.2.1 203 0 = L 203 0) := fun c => by
    refine x_le (show 2 ≤ k + 140 by omega) (v_wobbleM (k := 0) ?_)
    rw [m31]
    exact ⟨hw, fun c1 => ⟨⟨by omega, by omega⟩, fun c2 => absurd ⟨c1, c2⟩ c, fun c2 => ⟨rfl, q_J_same hP hC hB hM, rfl⟩⟩, fun c1 => ⟨rfl, q_J_same hP hC hB hM, rfl⟩⟩
  refine x_le (show 1 ≤ k + 140 by omega) (v_wobble (k := 0) ?_)
  rw [e17]
  refine ⟨hw, fun c => ⟨0, rfl, no (by omega)⟩, fun c => ⟨fun c1 => ⟨0, rfl, no (by omega)⟩, fun c1 => ⟨⟨by omega, by omega⟩, fun c2 => ⟨1, rfl, ?_⟩, fun c2 => ⟨0, rfl, no (by omega)⟩⟩⟩⟩
  have f1 : x_fr [(1, 17, 18)] I (x_u I 1 17 w) := x_fr_u (x_fr_refl _ _) rfl
  have hi := x_fr_hi f1 (by decide)
  have n4 := hP.2.2.2.2.1
  have hP' : q_JP (a.1, a.2.1, a.2.2.1, a.2.2.2.1, w, a.2.2.2.2.2) := ⟨hP.1, hP.2.1, ⟨c, c1⟩, hP.2.2.2⟩
  have C1 : q_JC (x_u I 1 17 w) lp (a.1, a.2.1, a.2.2.1, a.2.2.2.1, w, a.2.2.2.2.2) := by
    obtain ⟨h1, h2, ⟨h3, h4⟩, h5, h6, h7, ⟨h8, h9⟩, h10, h11, h12, h13, h14⟩ := hC
    exact ⟨q_Tc_x h1 rfl (fun _ => rfl), q_Kc_s hR hP.2.1.1 h2 f1 (by decide) (by decide), ⟨h3, fun j hj => q_C1_s (by have : j < j_nl a := hj; omega) (h4 j hj) f1 (by decide)⟩, h5, h6, rfl, ⟨h8, fun e => ⟨q_St24_s (h9 e).1 f1 (by decide), (h9 e).2⟩⟩, q_Sx_s h10 f1 (by decide), h11, q_Sf_fr h12 hi, q_sta_fr h13 hi, q_str_fr (S := []) h14 hi⟩
  have M1 := q_JM_lo hP hM f1 (by decide)
  have hB' : q_Bk (x_u I 1 17 w) (j_z (a.1, a.2.1, a.2.2.1, a.2.2.2.1, w, a.2.2.2.2.2)) := hB
  have m31' : x_u I 1 17 w 179 31 = j_wb a := m31
  have fin : q_J (x_u (x_u (x_u I 1 17 w) 179 0 0) 179 31 w, L, lp, tp) := by
    have f2 : x_fr [(179, 0, 1), (179, 31, 32)] (x_u I 1 17 w) (x_u (x_u (x_u I 1 17 w) 179 0 0) 179 31 w) := x_fr_u (x_fr_u (x_fr_refl _ _) rfl) rfl
    refine q_J_end hP' C1 hB' f2 (by decide +kernel) (by decide +kernel) ?_
    obtain ⟨h1, h2, h3, h4, h5, ⟨h6, h7⟩, h8⟩ := M1
    exact ⟨⟨(f2 179 6 rfl).trans h1.1, h1.2.1, fun k hk => (f2 180 k rfl).trans (h1.2.2.1 k hk), h1.2.2.2⟩, q_Km_s h2 f2 (by decide) (by decide), (f2 179 7 rfl).trans h3, (f2 179 29 rfl).trans h4, x_u_same _ _ _ _, ⟨(f2 179 61 rfl).trans h6, fun e x hx => (f2 202 x rfl).trans (h7 e x hx)⟩, q_Sm_s h8 f2 rfl (by decide)⟩
  refine x_le (show 2 ≤ k + 140 by omega) (v_wobbleM (k := 0) ?_)
  rw [m31']
  exact ⟨hw, fun c3 => ⟨⟨by omega, by omega⟩, fun c4 => ⟨rfl, fin, rfl⟩, fun c4 => absurd c4 c2⟩, fun c3 => absurd ⟨c, c1⟩ c3⟩
theorem q_Lc_of {I : Nat → Nat → Int} {FA : Nat → q_AV} {nl : Nat} {lh : Int} (hn : nl ≤ 4) (hl : lh = -1 ∨ (0 ≤ lh ∧ lh < (nl : Int))) (h : ∀ j, j < nl → q_C1 I j (q_F (FA j))) : q_Lc I (if lh = -1 then 0 else 167 + 3 * lh.toNat) (q_lw2 FA lh) := by
  unfold q_lw2
  by_cases c : lh = -1
  · rw [if_pos c, if_pos c]; exact Or.inl ⟨rfl, rfl⟩
  · rw [if_neg c, if_neg c]
    obtain ⟨n, c', h1, h2, h3, h4, h5⟩ := h lh.toNat (by omega)
    exact Or.inr ⟨n, c', _, by omega, rfl, h1, h2, fun i hi => by rw [show 167 + 3 * lh.toNat + 1 = 168 + 3 * lh.toNat by omega]; exact h3 i hi, h4, h5⟩
theorem q_LH_of {I : Nat → Nat → Int} {FA : Nat → q_AV} {nl : Nat} {lh : Int} (e : I 179 29 = lh) (hl : lh = -1 ∨ (0 ≤ lh ∧ lh < (nl : Int))) : q_LH I FA nl (q_lw2 FA lh) := by
  unfold q_lw2
  by_cases c : lh = -1
  · rw [if_pos c]; exact Or.inl ⟨e.trans c, rfl⟩
  · rw [if_neg c]; exact Or.inr ⟨lh.toNat, by omega, by omega, rfl⟩
theorem j_law {g : x_G} {k : Nat} {w0 : x_W} (hJ : q_J w0) {i : Int} (hi : x_rg i) : q_call g (k + 140) 127 236 [x_i i] w0 := by
  obtain ⟨I, L, lp, tp⟩ := w0
  obtain ⟨a, hP, hC, hB, hM⟩ := hJ
  dsimp only at hC hB hM
  have hR := q_R8 hP
  have n4 := hP.2.2.2.2.1
  have e13 : I 1 13 = (j_nl a : Int) := hC.2.2.1.1
  have m7 : I 179 7 = (j_nl a : Int) := hM.2.2.1
  have no : ¬ (-1 ≤ i ∧ i < (j_nl a : Int)) → x_X g (k + 140) 236 [x_r 179, x_i i] (I, L, lp, tp) (fun rv w2 => rv = [x_i 0] ∧ q_J w2 ∧ w2.2.1 203 0 = L 203 0) := fun c => by
    refine x_le (show 2 ≤ k + 140 by omega) (v_lawM (k := 0) ?_)
    rw [m7]
    exact ⟨hi, fun c1 => by omega, fun c1 => ⟨⟨by omega, by omega⟩, fun c2 => by omega, fun c2 => ⟨rfl, q_J_same hP hC hB hM, rfl⟩⟩⟩
  have yes : -1 ≤ i → i < (j_nl a : Int) → ∀ lp', lp' = (if i = -1 then 0 else 167 + 3 * i.toNat) → x_X g (k + 140) 236 [x_r 179, x_i i] (x_u (x_u I 1 14 i) 161 1 0, L, lp', tp) (fun rv w2 => rv = [x_i 1] ∧ q_J w2 ∧ w2.2.1 203 0 = L 203 0) := fun c1 c2 lp' el => by
    have f1 : x_fr [(1, 14, 15), (161, 1, 2)] I (x_u (x_u I 1 14 i) 161 1 0) := x_fr_u (x_fr_u (x_fr_refl _ _) rfl) rfl
    have hh := x_fr_hi f1 (by decide)
    have hl : i = -1 ∨ (0 ≤ i ∧ i < (j_nl a : Int)) := by omega
    have hP' : q_JP (a.1, a.2.1, (j_nl a, j_FA a, i), a.2.2.2) := ⟨hP.1, hP.2.1, hP.2.2.1, hP.2.2.2.1, n4, hl, hP.2.2.2.2.2.2⟩
    have C1 : q_JC (x_u (x_u I 1 14 i) 161 1 0) lp' (a.1, a.2.1, (j_nl a, j_FA a, i), a.2.2.2) := by
      obtain ⟨h1, h2, ⟨h3, h4⟩, h5, h6, h7, ⟨h8, h9⟩, h10, h11, h12, h13, h14⟩ := hC
      have K1 := q_Kc_s hR hP.2.1.1 h2 f1 (by decide) (by decide)
      have h4' : ∀ j, j < j_nl a → q_C1 (x_u (x_u I 1 14 i) 161 1 0) j (q_F (j_FA a j)) := fun j hj => q_C1_s (by omega) (h4 j hj) f1 (by decide)
      subst el
      exact ⟨q_Tc_x h1 rfl (fun _ => rfl), ⟨K1.1, q_Lc_of n4 hl h4', K1.2.2⟩, ⟨h3, h4'⟩, rfl, rfl, h7, ⟨h8, fun e => ⟨q_St24_s (h9 e).1 f1 (by decide), (h9 e).2⟩⟩, q_Sx_s h10 f1 (by decide), h11, q_Sf_fr h12 hh, q_sta_fr h13 hh, q_str_fr (S := []) h14 hh⟩
    have M1 := q_JM_lo hP hM f1 (by decide)
    have m7' : x_u (x_u I 1 14 i) 161 1 0 179 7 = (j_nl a : Int) := m7
    have fin : q_J (x_u (x_u (x_u (x_u I 1 14 i) 161 1 0) 179 0 0) 179 29 i, L, lp', tp) := by
      have f2 : x_fr [(179, 0, 1), (179, 29, 30)] (x_u (x_u I 1 14 i) 161 1 0) (x_u (x_u (x_u (x_u I 1 14 i) 161 1 0) 179 0 0) 179 29 i) := x_fr_u (x_fr_u (x_fr_refl _ _) rfl) rfl
      refine q_J_end hP' C1 (Or.inl rfl) f2 (by decide +kernel) (by decide +kernel) ?_
      obtain ⟨h1, h2, h3, h4, h5, ⟨h6, h7⟩, h8⟩ := M1
      obtain ⟨k1, k2, k3, k4, k5, ⟨k6, k7⟩, k8, k9, k10⟩ := h2
      exact ⟨⟨(f2 179 6 rfl).trans h1.1, h1.2.1, fun k hk => (f2 180 k rfl).trans (h1.2.2.1 k hk), h1.2.2.2⟩, ⟨(f2 _ _ rfl).trans k1, fun k hk => (f2 184 k rfl).trans (k2 k hk), fun k hk => (f2 186 k rfl).trans (k3 k hk), q_LM_S f2 (by decide) k4, q_LH_of (x_u_same _ _ _ _) hl, ⟨(f2 _ _ rfl).trans k6, fun j hj => q_Rm_eq (k7 j hj) (fun k => f2 188 k rfl) (fun k => f2 189 k rfl)⟩, (f2 _ _ rfl).trans k8, fun x hx => (f2 190 x rfl).trans (k9 x hx), ⟨(f2 _ _ rfl).trans k10.1, k10.2.1, fun j hj k hk => (f2 196 _ rfl).trans (k10.2.2 j hj k hk)⟩⟩, (f2 179 7 rfl).trans h3, x_u_same _ _ _ _, (f2 179 31 rfl).trans h5, ⟨(f2 179 61 rfl).trans h6, fun e x hx => (f2 202 x rfl).trans (h7 e x hx)⟩, q_Sm_s h8 f2 rfl (by decide)⟩
    refine x_le (show 2 ≤ k + 140 by omega) (v_lawM (k := 0) ?_)
    rw [m7']
    exact ⟨hi, fun c => ⟨rfl, fin, rfl⟩, fun c => ⟨⟨by omega, by omega⟩, fun c3 => ⟨rfl, fin, rfl⟩, fun c3 => by omega⟩⟩
  refine x_le (show 2 ≤ k + 140 by omega) (v_law (k := 0) ?_)
  rw [e13]
  refine ⟨hi, fun c => ⟨0, rfl, no (by omega)⟩, fun c => ⟨⟨by omega, by omega⟩, fun c1 => ⟨fun c2 => ⟨⟨by omega, by omega⟩, 1, rfl, yes c c1 _ ?_⟩, fun c2 => ⟨1, rfl, yes c c1 _ ?_⟩⟩, fun c1 => ⟨0, rfl, no (by omega)⟩⟩⟩
  · rw [if_neg (by omega)]
    obtain ⟨j, rfl⟩ := Int.eq_ofNat_of_zero_le c2
    rw [show ((j : Int)).toNat = j by omega]
    rcases (show j = 0 ∨ j = 1 ∨ j = 2 ∨ j = 3 by omega) with rfl | rfl | rfl | rfl <;> rfl
  · rw [if_pos (by omega)]
