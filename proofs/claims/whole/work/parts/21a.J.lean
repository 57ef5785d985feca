/-! what holds between two calls: the class's cells, the reference's cells, and what they mean -/
abbrev q_A : Type := List Int × q_OR × (Nat × (Nat → q_AV) × Int) × (Nat × (Nat → Nat → Int)) × Int × q_V × (Int × (Nat → Int) × (Nat → Int)) × ((Nat → Int) × (Nat → Int) × Nat)
abbrev j_t (a : q_A) : List Int := a.1
abbrev j_R (a : q_A) : Nat := a.2.1.1
abbrev j_ru (a : q_A) : Nat → Int := a.2.1.2.1
abbrev j_to (a : q_A) : Nat → Int := a.2.1.2.2
abbrev j_nl (a : q_A) : Nat := a.2.2.1.1
abbrev j_FA (a : q_A) : Nat → q_AV := a.2.2.1.2.1
abbrev j_lh (a : q_A) : Int := a.2.2.1.2.2
abbrev j_nr (a : q_A) : Nat := a.2.2.2.1.1
abbrev j_RD (a : q_A) : Nat → Nat → Int := a.2.2.2.1.2
abbrev j_wb (a : q_A) : Int := a.2.2.2.2.1
abbrev j_v (a : q_A) : q_V := a.2.2.2.2.2.1
abbrev j_im (a : q_A) : Int := a.2.2.2.2.2.2.1.1
abbrev j_M (a : q_A) : Nat → Int := a.2.2.2.2.2.2.1.2.1
abbrev j_li (a : q_A) : Nat → Int := a.2.2.2.2.2.2.1.2.2
abbrev j_es (a : q_A) : Nat → Int := a.2.2.2.2.2.2.2.1
abbrev j_la (a : q_A) : Nat → Int := a.2.2.2.2.2.2.2.2.1
abbrev j_ns (a : q_A) : Nat := a.2.2.2.2.2.2.2.2.2
abbrev j_lo (a : q_A) : Option q_F6 := q_lw2 (j_FA a) (j_lh a)
abbrev j_z (a : q_A) : q_Z := q_zo (j_R a) (j_ru a) (j_to a) (j_lo a) (q_rd (j_RD a) (q_vr (j_v a))) (q_vN (j_v a))
def q_C1 (I : Nat → Nat → Int) (j : Nat) (F : q_F6) : Prop := ∃ (n : Nat) (c : Nat → Int), n ≤ 240 ∧ (∀ i, i < n → 0 ≤ c i ∧ c i ≤ 200000) ∧ (∀ i, i < n → I (168 + 3 * j) i = c i) ∧ I (167 + 3 * j) 2 = (n : Int) ∧ ∀ m h f d k n', q_lr m h f d k n' → ∃ fu, q_ex c n (q_lt m h f d k n') fu 0 [] = some (F m h f d k n')
def q_Sx (I : Nat → Nat → Int) (R : Nat) (es la : Nat → Int) : Prop := ∃ la', q_Sc I es la' ∧ (R ≠ 0 → la' = la)
theorem q_Sx_eq {I I' : Nat → Nat → Int} {R : Nat} {es la : Nat → Int} (h : q_Sx I R es la) (e1 : ∀ r, I' 163 r = I 163 r) (e2 : ∀ r, I' 164 r = I 164 r) : q_Sx I' R es la := by
  obtain ⟨la', h1, h2⟩ := h
  exact ⟨la', fun r hr => ⟨(e1 r).trans (h1 r hr).1, (e2 r).trans (h1 r hr).2.1, (h1 r hr).2.2⟩, h2⟩
def q_JC (I : Nat → Nat → Int) (lp : Nat) (a : q_A) : Prop := q_Tc I (j_t a) ∧ q_Kc I lp (j_R a) (j_ru a) (j_to a) (j_lo a) (j_nr a) (j_RD a) (j_v a) ∧ (I 1 13 = (j_nl a : Int) ∧ ∀ j, j < j_nl a → q_C1 I j (q_F (j_FA a j))) ∧ I 1 14 = j_lh a ∧ lp = (if j_lh a = -1 then 0 else 167 + 3 * (j_lh a).toNat) ∧ I 1 17 = j_wb a ∧ (I 21 6 = j_im a ∧ (j_im a = 1 → q_St I 24 (j_M a) ∧ ∀ x, x < 300 → I 27 x = j_li a x)) ∧ q_Sx I (j_R a) (j_es a) (j_la a) ∧ I 162 6 = (j_ns a : Int) ∧ q_Sf I ∧ q_sta I ∧ q_str I
def q_JM (I L : Nat → Nat → Int) (a : q_A) : Prop := q_Tm I (j_t a) ∧ q_Km I L (j_FA a) (j_nl a) (j_R a) (j_ru a) (j_to a) (j_lo a) (j_nr a) (j_RD a) (j_v a) ∧ I 179 7 = (j_nl a : Int) ∧ I 179 29 = j_lh a ∧ I 179 31 = j_wb a ∧ (I 179 61 = j_im a ∧ (j_im a = 1 → ∀ x, x < 210 → I 202 x = j_M a x)) ∧ q_Sm I (j_es a) (j_la a) (j_ns a)
def q_JP (a : q_A) : Prop := q_Wo (j_R a) (j_ru a) (j_to a) ∧ q_Rk (j_nr a) (j_RD a) (q_vr (j_v a)) ∧ (0 ≤ j_wb a ∧ j_wb a ≤ 9) ∧ q_Hk (j_R a) (q_vN (j_v a)) (q_vH (j_v a)) (q_vn (j_v a)) (q_vl (j_v a)) ∧ j_nl a ≤ 4 ∧ (j_lh a = -1 ∨ (0 ≤ j_lh a ∧ j_lh a < (j_nl a : Int))) ∧ (j_im a = 0 ∨ (j_im a = 1 ∧ ∃ D, q_Nk (j_R a) (j_M a) D ∧ q_Lr (j_li a) (j_M a) D)) ∧ j_ns a ≤ 10
def q_J (w : x_W) : Prop := ∃ a, q_JP a ∧ q_JC w.1 w.2.2.1 a ∧ q_Bk w.1 (j_z a) ∧ q_JM w.1 w.2.1 a
abbrev q_scx : List (Nat × Nat × Nat) := [(4, 2, 3), (5, 3, 4), (6, 0, 4), (7, 0, 40), (9, 2, 3), (10, 2, 3), (11, 0, 240), (13, 0, 8), (155, 0, 6), (167, 3, 4), (169, 0, 40), (170, 3, 4), (172, 0, 40), (173, 3, 4), (175, 0, 40), (176, 3, 4), (178, 0, 40), (156, 5, 13), (157, 0, 8), (158, 0, 8), (159, 0, 8), (160, 0, 8), (161, 1, 7), (162, 5, 6), (165, 0, 8), (166, 0, 8), (179, 0, 100), (180, 0, 240), (181, 0, 960), (182, 0, 4), (183, 0, 128), (184, 0, 4), (185, 0, 4), (186, 0, 40), (187, 0, 40), (188, 0, 40), (189, 0, 5), (190, 0, 210), (191, 0, 8), (192, 0, 8), (193, 0, 8), (195, 0, 8191), (196, 0, 8400), (197, 0, 10), (198, 0, 10), (199, 0, 8), (200, 0, 8), (201, 0, 10), (202, 0, 210)]
theorem q_R8 {a : q_A} (h : q_JP a) : j_R a ≤ 8 := by rcases h.1.1 with h | h <;> omega
theorem q_scx_28 {I I' : Nat → Nat → Int} (hf : x_fr q_scx I I') {a k : Nat} (h1 : 28 ≤ a) (h2 : a < 148) : I' a k = I a k := hf a k (by
  cases e : x_mem q_scx a k with
  | false => rfl
  | true =>
    obtain ⟨t, m1, m2, -⟩ := (x_mem_iff _ a k).mp e
    have hall : ∀ t ∈ q_scx, t.1 < 28 ∨ 148 ≤ t.1 := by decide
    have := hall t m1
    omega)
theorem q_Kc_x {I I' : Nat → Nat → Int} {lp R : Nat} {ru to : Nat → Int} {lo : Option q_F6} {nr : Nat} {RD : Nat → Nat → Int} {v : q_V} (hR : R ≤ 8) (hn : nr ≤ 4) (h : q_Kc I lp R ru to lo nr RD v) (hf : x_fr q_scx I I') : q_Kc I' lp R ru to lo nr RD v :=
  q_Kc_ag hR hn h (x_fr_ag hf (by decide +kernel)) ((hf 1 16 rfl).trans h.2.2.2.1) (q_St_eq h.2.2.2.2.1 (fun k _ _ => hf 18 k rfl) (fun k _ => ⟨hf 19 k rfl, hf 20 k rfl⟩)) (q_Ac_fr h.2.2.2.2.2.1 (hf 21 4 rfl) (hf 21 5 rfl) (fun a k h1 h2 => q_scx_28 hf h1 h2)) (fun x => (hf 23 x rfl).trans (h.2.2.2.2.2.2 x))
theorem q_C1_eq {I I' : Nat → Nat → Int} {j : Nat} {F : q_F6} (h : q_C1 I j F) (e1 : ∀ i, i < 240 → I' (168 + 3 * j) i = I (168 + 3 * j) i) (e2 : I' (167 + 3 * j) 2 = I (167 + 3 * j) 2) : q_C1 I' j F := by
  obtain ⟨n, c, h1, h2, h3, h4, h5⟩ := h
  exact ⟨n, c, h1, h2, fun i hi => (e1 i (by omega)).trans (h3 i hi), e2.trans h4, h5⟩
theorem q_C1_x {I I' : Nat → Nat → Int} {j : Nat} {F : q_F6} (hj : j < 4) (h : q_C1 I j F) (hf : x_fr q_scx I I') : q_C1 I' j F := by
  rcases (show j = 0 ∨ j = 1 ∨ j = 2 ∨ j = 3 by omega) with rfl | rfl | rfl | rfl
  · exact q_C1_eq h (fun i _ => hf 168 i rfl) (hf 167 2 rfl)
  · exact q_C1_eq h (fun i _ => hf 171 i rfl) (hf 170 2 rfl)
  · exact q_C1_eq h (fun i _ => hf 174 i rfl) (hf 173 2 rfl)
  · exact q_C1_eq h (fun i _ => hf 177 i rfl) (hf 176 2 rfl)
theorem q_Tc_x {I I' : Nat → Nat → Int} {t : List Int} (h : q_Tc I t) (e1 : I' 2 1 = I 2 1) (e2 : ∀ k, I' 3 k = I 3 k) : q_Tc I' t := ⟨e1.trans h.1, h.2.1, fun k hk => (e2 k).trans (h.2.2.1 k hk), h.2.2.2⟩
theorem q_hix {I I' : Nat → Nat → Int} (hf : x_fr q_scx I I') : ∀ a k, 5000 ≤ a → I' a k = I a k := x_fr_hi hf (by decide)
theorem q_Sf_fr {I I' : Nat → Nat → Int} (h : q_Sf I) (hf : ∀ a k, 5000 ≤ a → I' a k = I a k) : q_Sf I' := fun j hj => (hf _ _ (by omega)).trans (h j hj)
theorem q_JC_fr {I I' : Nat → Nat → Int} {lp : Nat} {a : q_A} (hP : q_JP a) (h : q_JC I lp a) (hf : x_fr q_scx I I') : q_JC I' lp a := by
  obtain ⟨h1, h2, ⟨h3, h4⟩, h5, h6, h7, ⟨h8, h9⟩, h10, h11, h12, h13, h14⟩ := h
  have hi := q_hix hf
  have n4 := hP.2.2.2.2.1
  exact ⟨q_Tc_x h1 (hf 2 1 rfl) (fun k => hf 3 k rfl), q_Kc_x (q_R8 hP) hP.2.1.1 h2 hf, ⟨(hf 1 13 rfl).trans h3, fun j hj => q_C1_x (by omega) (h4 j hj) hf⟩, (hf 1 14 rfl).trans h5, h6, (hf 1 17 rfl).trans h7, ⟨(hf 21 6 rfl).trans h8, fun e => ⟨q_St_eq (h9 e).1 (fun k _ _ => hf 24 k rfl) (fun k _ => ⟨hf 25 k rfl, hf 26 k rfl⟩), fun x hx => (hf 27 x rfl).trans ((h9 e).2 x hx)⟩⟩, q_Sx_eq h10 (fun r => hf 163 r rfl) (fun r => hf 164 r rfl), (hf 162 6 rfl).trans h11, q_Sf_fr h12 hi, q_sta_fr h13 hi, q_str_fr (S := []) h14 hi⟩
abbrev q_scm : List (Nat × Nat × Nat) := [(179, 0, 1), (179, 8, 15), (179, 17, 18), (179, 35, 43), (179, 48, 50), (179, 56, 60), (191, 0, 8), (192, 0, 8), (193, 0, 8), (199, 0, 8), (200, 0, 8), (183, 0, 128), (195, 0, 8191), (179, 25, 26), (179, 27, 28), (185, 0, 4), (187, 0, 40), (188, 32, 40), (189, 4, 5)]
def q_agM (I I' : Nat → Nat → Int) : Prop := ∀ a k, 179 ≤ a → x_mem q_scm a k = false → I' a k = I a k
theorem q_agM_lo {S : List (Nat × Nat × Nat)} {I I' : Nat → Nat → Int} (hf : x_fr S I I') (hs : ∀ t ∈ S, t.1 < 179) : q_agM I I' := fun a k ha _ => hf a k (by
  cases e : x_mem S a k with
  | false => rfl
  | true =>
    obtain ⟨t, m1, m2, -⟩ := (x_mem_iff _ a k).mp e
    have := hs t m1
    omega)
theorem q_agM_fr {S : List (Nat × Nat × Nat)} {I I' : Nat → Nat → Int} (hf : x_fr S I I') (hs : x_sub S q_scm = true) : q_agM I I' := fun a k _ hm => x_fr_mono hf hs a k hm
theorem q_Rm_x {I I' : Nat → Nat → Int} {w : Nat} {rd : Nat → Int} (hw : w < 4) (h : q_Rm I w rd) (hf : q_agM I I') : q_Rm I' w rd := by
  obtain ⟨n, h1, h2, h3, h4⟩ := h
  have e188 : ∀ x, x < 8 → I' 188 (8 * w + x) = I 188 (8 * w + x) := fun x hx => hf 188 _ (by omega) (by
    cases e : x_mem q_scm 188 (8 * w + x) with
    | false => rfl
    | true =>
      obtain ⟨t, m1, m2, m3, m4⟩ := (x_mem_iff _ 188 (8 * w + x)).mp e
      have hall : ∀ t ∈ q_scm, t.1 = 188 → 32 ≤ t.2.1 := by decide
      have := hall t m1 m2.symm
      omega)
  have e189 : I' 189 w = I 189 w := hf 189 w (by omega) (by
    cases e : x_mem q_scm 189 w with
    | false => rfl
    | true =>
      obtain ⟨t, m1, m2, m3, m4⟩ := (x_mem_iff _ 189 w).mp e
      have hall : ∀ t ∈ q_scm, t.1 = 189 → 4 ≤ t.2.1 := by decide
      have := hall t m1 m2.symm
      omega)
  exact ⟨n, e189.trans h1, h2, fun x hx => by rw [e188 x (by omega)]; exact h3 x hx, h4⟩
theorem q_JM_ag {I I' L L' : Nat → Nat → Int} {a : q_A} (hP : q_JP a) (h : q_JM I L a) (hf : q_agM I I') (hL : q_LM I' L' (j_FA a) (j_nl a)) : q_JM I' L' a := by
  obtain ⟨h1, h2, h3, h4, h5, ⟨h6, h7⟩, h8⟩ := h
  obtain ⟨k1, k2, k3, k4, k5, ⟨k6, k7⟩, k8, k9, k10⟩ := h2
  obtain ⟨s1, s2, s3, s4⟩ := h8
  have f : ∀ k, x_mem q_scm 179 k = false → I' 179 k = I 179 k := fun k hm => hf 179 k (by omega) hm
  have hn := hP.2.1.1
  have e197 : ∀ k, I' 197 k = I 197 k := fun k => hf 197 k (by omega) rfl
  have e198 : ∀ k, I' 198 k = I 198 k := fun k => hf 198 k (by omega) rfl
  have e201 : ∀ k, I' 201 k = I 201 k := fun k => hf 201 k (by omega) rfl
  refine ⟨⟨(f 6 rfl).trans h1.1, h1.2.1, fun k hk => (hf 180 k (by omega) rfl).trans (h1.2.2.1 k hk), h1.2.2.2⟩, ⟨(f 24 rfl).trans k1, fun k hk => (hf 184 k (by omega) rfl).trans (k2 k hk), fun k hk => (hf 186 k (by omega) rfl).trans (k3 k hk), hL, ?_, ⟨(f 26 rfl).trans k6, fun j hj => q_Rm_x (by omega) (k7 j hj) hf⟩, (f 30 rfl).trans k8, fun x hx => (hf 190 x (by omega) rfl).trans (k9 x hx), ⟨(f 46 rfl).trans k10.1, k10.2.1, fun j hj k hk => (hf 196 _ (by omega) rfl).trans (k10.2.2 j hj k hk)⟩⟩, (f 7 rfl).trans h3, (f 29 rfl).trans h4, (f 31 rfl).trans h5, ⟨(f 61 rfl).trans h6, fun e x hx => (hf 202 x (by omega) rfl).trans (h7 e x hx)⟩, ⟨(f 55 rfl).trans s1, s2, fun k hk => by rw [e197, e198, e201]; exact s3 k hk, fun r hr T t0 t1 => ?_⟩⟩
  · unfold q_LH
    rw [f 29 rfl]
    exact k5
  · rw [s4 r hr T t0 t1]
    exact ⟨fun h k hk => by rw [e197, e198, e201]; exact h k hk, fun h k hk => by have := h k hk; rw [e197, e198, e201] at this; exact this⟩
theorem q_LM_lo {I I' L : Nat → Nat → Int} {FA : Nat → q_AV} {nl : Nat} (h : q_LM I L FA nl) (hf : ∀ a k, 179 ≤ a → I' a k = I a k) : q_LM I' L FA nl := q_LM_fr (S := []) h (fun k => hf 181 k (by omega)) (fun k => hf 182 k (by omega)) (fun k => hf 183 k (by omega)) (fun k => hf 195 k (by omega)) (fun a k ha => hf a k (by omega)) (fun _ => rfl)
theorem x_fr_lo {S : List (Nat × Nat × Nat)} {I I' : Nat → Nat → Int} (hf : x_fr S I I') (hs : ∀ t ∈ S, t.1 < 179) : ∀ a k, 179 ≤ a → I' a k = I a k := fun a k ha => hf a k (by
  cases e : x_mem S a k with
  | false => rfl
  | true =>
    obtain ⟨t, m1, m2, -⟩ := (x_mem_iff _ a k).mp e
    have := hs t m1
    omega)
theorem q_JM_lo {S : List (Nat × Nat × Nat)} {I I' L : Nat → Nat → Int} {a : q_A} (hP : q_JP a) (h : q_JM I L a) (hf : x_fr S I I') (hs : ∀ t ∈ S, t.1 < 179) : q_JM I' L a := q_JM_ag hP h (q_agM_lo hf hs) (q_LM_lo h.2.1.2.2.2.1 (x_fr_lo hf hs))
theorem q_j_Zk {a : q_A} (hP : q_JP a) : q_Zk (j_z a) := by
  obtain ⟨D, hN, -⟩ := q_Hk_d hP.2.2.2.1
  exact q_zo_k hP.1 hN (q_rd_k hP.2.1)
theorem q_j_Zd {a : q_A} (hP : q_JP a) : q_Zd (j_z a) := q_rd_d hP.2.1
theorem q_j_ZC {I : Nat → Nat → Int} {lp : Nat} {a : q_A} (hP : q_JP a) (h : q_JC I lp a) : q_ZC I lp (j_z a) := q_Kc_ZC (q_R8 hP) hP.2.1 h.2.1
theorem q_j_ZM {I L : Nat → Nat → Int} {a : q_A} (hP : q_JP a) (h : q_JM I L a) : q_ZM I L (j_z a) (j_FA a) (j_nl a) := by
  obtain ⟨D, hN, -⟩ := q_Hk_d hP.2.2.2.1
  exact q_Km_ZM (q_R8 hP) hP.2.1 hN h.2.1
/-- a call of both, with the same answer -/
def q_call (g : x_G) (k mc mm : Nat) (as : List x_V) (w : x_W) : Prop := x_X g k mc (x_r 1 :: as) w (fun rv w1 => ∃ z, rv = [x_i z] ∧ x_X g k mm (x_r 179 :: as) w1 (fun rv w2 => rv = [x_i z] ∧ q_J w2 ∧ w2.2.1 203 0 = w.2.1 203 0))
/-- a question that changes nothing but scratch -/
theorem q_ask1 {g : x_G} {k mc mm : Nat} {as : List x_V} {I L : Nat → Nat → Int} {lp tp : Nat} {a : q_A} {z : Int} {Sc Sm : List (Nat × Nat × Nat)} (hP : q_JP a) (hC : q_JC I lp a) (hB : q_Bk I (j_z a)) (hM : q_JM I L a) (sc : x_sub Sc q_scx = true) (sc1 : ∀ t ∈ Sc, t.1 < 179) (sb : x_dj Sc [(161, 1, 2), (161, 3, 5)] = true) (sm : x_sub Sm q_scm = true) (sm1 : x_sub Sm q_scx = true) (sm2 : x_dj Sm [(161, 1, 2), (161, 3, 5)] = true) (c : ∀ Q : x_Q, (∀ I', x_fr Sc I I' → Q [x_i z] (I', L, lp, tp)) → x_X g k mc (x_r 1 :: as) (I, L, lp, tp) Q) (m : ∀ (I1 : Nat → Nat → Int) (Q : x_Q), q_JC I1 lp a → q_JM I1 L a → (∀ I' L' tp', x_fr Sm I1 I' → q_Lo L L' → q_LM I' L' (j_FA a) (j_nl a) → Q [x_i z] (I', L', lp, tp')) → x_X g k mm (x_r 179 :: as) (I1, L, lp, tp) Q) : q_call g k mc mm as (I, L, lp, tp) := by
  refine c _ (fun I1 f1 => ⟨z, rfl, ?_⟩)
  have C1 := q_JC_fr hP hC (x_fr_mono f1 sc)
  have M1 := q_JM_lo hP hM f1 sc1
  have hb : ∀ {I I' : Nat → Nat → Int}, q_Bk I (j_z a) → q_ag [(161, 1, 2), (161, 3, 5)] I I' → q_Bk I' (j_z a) := fun {I I'} h e => by
    have e1 : I' 161 1 = I 161 1 := e 161 1 rfl
    have e3 : I' 161 3 = I 161 3 := e 161 3 rfl
    have e4 : I' 161 4 = I 161 4 := e 161 4 rfl
    unfold q_Bk
    rw [e1, e3, e4]
    exact h
  refine m I1 _ C1 M1 (fun I2 L2 tp2 f2 l2 m2 => ⟨rfl, ⟨a, hP, q_JC_fr hP C1 (x_fr_mono f2 sm1), hb (hb hB (x_fr_ag f1 sb)) (x_fr_ag f2 sm2), q_JM_ag hP M1 (q_agM_fr f2 sm) m2⟩, l2 203 0 (by decide)⟩)
theorem x_nrm {g : x_G} {k mid : Nat} {as : List x_V} {w : x_W} {z : Int} {F : x_W → Prop} (h : x_X g k mid as w (fun rv w' => rv = [x_i z] ∧ F w')) : x_X g k mid as w (fun rv w' => rv = [x_i (Int32.ofInt z).toInt] ∧ F w') := fun hn d hd => am_Cl_mono (h hn d hd) (fun r w ⟨r', w', e1, e2, e3, e4⟩ => ⟨[x_i (Int32.ofInt z).toInt], w', by
  rw [e1, e3]
  show [Value.int (Int32.ofInt z)] = [Value.int (Int32.ofInt ((Int32.ofInt z).toInt))]
  rw [Int32.ofInt_toInt], e2, rfl, e4⟩)
theorem x_i32rg (i : Int32) : x_rg i.toInt := by
  have h1 := i.le_toInt
  have h2 := i.toInt_lt
  exact ⟨by omega, by omega⟩
theorem q_call_n {g : x_G} {k mc mm : Nat} {as : List x_V} {w : x_W} (h : q_call g k mc mm as w) : x_X g k mc (x_r 1 :: as) w (fun rv w1 => ∃ z, rv = [x_i z] ∧ x_rg z ∧ x_X g k mm (x_r 179 :: as) w1 (fun rv w2 => rv = [x_i z] ∧ q_J w2 ∧ w2.2.1 203 0 = w.2.1 203 0)) := fun hn d hd => am_Cl_mono (h hn d hd) (fun r w1 ⟨r', w', e1, e2, z, e3, e4⟩ => ⟨[x_i (Int32.ofInt z).toInt], w', by
  rw [e1, e3]
  show [Value.int (Int32.ofInt z)] = [Value.int (Int32.ofInt ((Int32.ofInt z).toInt))]
  rw [Int32.ofInt_toInt], e2, _, rfl, x_i32rg _, x_nrm e4⟩)
