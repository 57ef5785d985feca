/-! acts, at J -/
def q_setv (a : q_A) (v : q_V) : q_A := (a.1, a.2.1, a.2.2.1, a.2.2.2.1, a.2.2.2.2.1, v, a.2.2.2.2.2.2)
abbrev q_fAl : List (Nat × Nat × Nat) := (19, 0, 8) :: q_fDc
theorem q_JP_v {a : q_A} {v : q_V} (h : q_JP a) (hH : q_Hk (j_R a) (q_vN v) (q_vH v) (q_vn v) (q_vl v)) (hr : q_Rk (j_nr a) (j_RD a) (q_vr v)) : q_JP (q_setv a v) := ⟨h.1, hr, h.2.2.1, hH, h.2.2.2.2⟩
theorem q_JC_v {I I' : Nat → Nat → Int} {lp : Nat} {a : q_A} {v : q_V} (hP : q_JP a) (h : q_JC I lp a) (hf : x_fr q_fAl I I') (hK : q_Kc I' lp (j_R a) (j_ru a) (j_to a) (j_lo a) (j_nr a) (j_RD a) v) : q_JC I' lp (q_setv a v) := by
  obtain ⟨h1, h2, ⟨h3, h4⟩, h5, h6, h7, ⟨h8, h9⟩, h10, h11, h12, h13, h14⟩ := h
  have hi := x_fr_hi hf (by decide +kernel)
  have n4 := hP.2.2.2.2.1
  have e3 : ∀ k, I' 3 k = I 3 k := fun k => hf 3 k (x_nm k (by decide +kernel))
  have e24 : ∀ k, I' 24 k = I 24 k := fun k => hf 24 k (x_nm k (by decide +kernel))
  have e25 : ∀ k, I' 25 k = I 25 k := fun k => hf 25 k (x_nm k (by decide +kernel))
  have e26 : ∀ k, I' 26 k = I 26 k := fun k => hf 26 k (x_nm k (by decide +kernel))
  have e27 : ∀ k, I' 27 k = I 27 k := fun k => hf 27 k (x_nm k (by decide +kernel))
  have e163 : ∀ k, I' 163 k = I 163 k := fun k => hf 163 k (x_nm k (by decide +kernel))
  have e164 : ∀ k, I' 164 k = I 164 k := fun k => hf 164 k (x_nm k (by decide +kernel))
  have e168 : ∀ k, I' 168 k = I 168 k := fun k => hf 168 k (x_nm k (by decide +kernel))
  have e171 : ∀ k, I' 171 k = I 171 k := fun k => hf 171 k (x_nm k (by decide +kernel))
  have e174 : ∀ k, I' 174 k = I 174 k := fun k => hf 174 k (x_nm k (by decide +kernel))
  have e177 : ∀ k, I' 177 k = I 177 k := fun k => hf 177 k (x_nm k (by decide +kernel))
  refine ⟨q_Tc_x h1 (hf 2 1 (x_nm 1 (by decide +kernel))) e3, hK, ⟨(hf 1 13 (by decide +kernel)).trans h3, fun j hj => ?_⟩, (hf 1 14 (by decide +kernel)).trans h5, h6, (hf 1 17 (by decide +kernel)).trans h7, ⟨(hf 21 6 (by decide +kernel)).trans h8, fun e => ⟨q_St_eq (h9 e).1 (fun k _ _ => e24 k) (fun k _ => ⟨e25 k, e26 k⟩), fun x hx => (e27 x).trans ((h9 e).2 x hx)⟩⟩, q_Sx_eq h10 e163 e164, (hf 162 6 (by decide +kernel)).trans h11, q_Sf_fr h12 hi, q_sta_fr h13 hi, q_str_fr (S := []) h14 hi⟩
  have hj' : j < j_nl a := hj
  have h4' := h4 j hj'
  show q_C1 I' j (q_F (j_FA a j))
  rcases (show j = 0 ∨ j = 1 ∨ j = 2 ∨ j = 3 by omega) with rfl | rfl | rfl | rfl
  · exact q_C1_eq h4' (fun i _ => e168 i) (hf 167 2 (by decide +kernel))
  · exact q_C1_eq h4' (fun i _ => e171 i) (hf 170 2 (by decide +kernel))
  · exact q_C1_eq h4' (fun i _ => e174 i) (hf 173 2 (by decide +kernel))
  · exact q_C1_eq h4' (fun i _ => e177 i) (hf 176 2 (by decide +kernel))
theorem q_JM_v {I I' L L' : Nat → Nat → Int} {a : q_A} {v : q_V} (h : q_JM I L a) (hf : x_fr q_fDm I I') (hK : q_Km I' L' (j_FA a) (j_nl a) (j_R a) (j_ru a) (j_to a) (j_lo a) (j_nr a) (j_RD a) v) : q_JM I' L' (q_setv a v) := by
  obtain ⟨h1, h2, h3, h4, h5, ⟨h6, h7⟩, s1, s2, s3, s4⟩ := h
  have e197 : ∀ k, I' 197 k = I 197 k := fun k => hf 197 k rfl
  have e198 : ∀ k, I' 198 k = I 198 k := fun k => hf 198 k rfl
  have e201 : ∀ k, I' 201 k = I 201 k := fun k => hf 201 k rfl
  refine ⟨⟨(hf 179 6 rfl).trans h1.1, h1.2.1, fun k hk => (hf 180 k rfl).trans (h1.2.2.1 k hk), h1.2.2.2⟩, hK, (hf 179 7 rfl).trans h3, (hf 179 29 rfl).trans h4, (hf 179 31 rfl).trans h5, ⟨(hf 179 61 rfl).trans h6, fun e x hx => (hf 202 x rfl).trans (h7 e x hx)⟩, ⟨(hf 179 55 rfl).trans s1, s2, fun k hk => by rw [e197, e198, e201]; exact s3 k hk, fun r hr T t0 t1 => ?_⟩⟩
  exact (s4 r hr T t0 t1).trans ⟨fun h k hk => by rw [e197, e198, e201]; exact h k hk, fun h k hk => by have := h k hk; rw [e197, e198, e201] at this; exact this⟩
theorem q_JM_0 {I L : Nat → Nat → Int} {a : q_A} (hP : q_JP a) (h : q_JM I L a) : q_JM (x_u I 179 0 0) L a := q_JM_ag hP h (q_agM_fr (S := [(179, 0, 1)]) (x_fr_u (x_fr_refl _ _) rfl) (by decide +kernel)) (q_LM_0 h.2.1.2.2.2.1)
theorem q_J_end {I1 I2 L2 : Nat → Nat → Int} {lp tp : Nat} {a : q_A} {S : List (Nat × Nat × Nat)} (hP : q_JP a) (hC : q_JC I1 lp a) (hB : q_Bk I1 (j_z a)) (hf : x_fr S I1 I2) (hs : x_sub S q_scx = true) (hd : x_dj S [(161, 1, 2), (161, 3, 5)] = true) (hM : q_JM I2 L2 a) : q_J (I2, L2, lp, tp) := by
  refine ⟨a, hP, q_JC_fr hP hC (x_fr_mono hf hs), ?_, hM⟩
  have e := x_fr_ag hf hd
  have e1 : I2 161 1 = I1 161 1 := e 161 1 rfl
  have e3 : I2 161 3 = I1 161 3 := e 161 3 rfl
  have e4 : I2 161 4 = I1 161 4 := e 161 4 rfl
  show q_Bk I2 (j_z a)
  unfold q_Bk
  rw [e1, e3, e4]
  exact hB
theorem q_act {g : x_G} {k mc mm : Nat} {as : List x_V} {I L : Nat → Nat → Int} {lp tp : Nat} {a : q_A} (hP : q_JP a) (hC : q_JC I lp a) (hB : q_Bk I (j_z a)) (hM : q_JM I L a) (D0 : Prop) (z0 z1 : Int) (N' : Nat → Int) (hk : D0 → (∀ D, q_Nk (j_R a) (q_vN (j_v a)) D → q_Nk (j_R a) N' D) ∧ ∀ lg D, q_Lr lg (q_vN (j_v a)) D → q_Lr lg N' D)
    (c : ∀ Q : x_Q, (¬ D0 → Q [x_i z0] (I, L, lp, tp)) → (D0 → ∀ I', x_fr q_fA1 I I' → I' 161 1 = 0 → q_St I' 18 N' → q_Ac I' (q_h1 (q_vH (j_v a)) (q_vn (j_v a)) (q_vN (j_v a))) (min 40 (q_vn (j_v a) + 1)) → Q [x_i z1] (I', L, lp, tp)) → x_X g k mc (x_r 1 :: as) (I, L, lp, tp) Q)
    (m : ∀ (I1 : Nat → Nat → Int) (Q : x_Q), q_JM I1 L a → (¬ D0 → Q [x_i z0] (x_u I1 179 0 0, L, lp, tp)) → (D0 → ∀ I', x_fr q_fPm I1 I' → (∀ x, x < 210 → I' 190 x = N' x) → q_Am I' (q_h1 (q_vH (j_v a)) (q_vn (j_v a)) (I1 190)) (min 40 (q_vn (j_v a) + 1)) → Q [x_i z1] (I', L, lp, tp)) → x_X g k mm (x_r 179 :: as) (I1, L, lp, tp) Q) : q_call g k mc mm as (I, L, lp, tp) := by
  have hR := q_R8 hP
  refine c _ (fun hd => ⟨z0, rfl, ?_⟩) (fun hd I1 f1 b1 n1 a1 => ⟨z1, rfl, ?_⟩)
  · refine m I _ hM (fun _ => ⟨rfl, ?_, rfl⟩) (fun h => absurd h hd)
    exact q_J_end (S := [(179, 0, 1)]) hP hC hB (x_fr_u (x_fr_refl _ _) rfl) (by decide +kernel) (by decide +kernel) (q_JM_0 hP hM)
  · obtain ⟨k1, k2⟩ := hk hd
    have hH := q_Hk_act hP.2.2.2.1 k1 (k2 _)
    have hP' : q_JP (q_setv a (N', q_h1 (q_vH (j_v a)) (q_vn (j_v a)) (q_vN (j_v a)), min 40 (q_vn (j_v a) + 1), q_vl (j_v a), q_vr (j_v a))) := q_JP_v hP hH hP.2.1
    have fl : x_fr q_fAl I I1 := x_fr_mono f1 (by decide +kernel)
    have hK := hC.2.1
    have C1 : q_JC I1 lp (q_setv a (N', q_h1 (q_vH (j_v a)) (q_vn (j_v a)) (q_vN (j_v a)), min 40 (q_vn (j_v a) + 1), q_vl (j_v a), q_vr (j_v a))) := q_JC_v hP hC fl (q_Kc_ag hR hP.2.1.1 hK (x_fr_ag f1 (by decide +kernel)) ((f1 1 16 (x_nm 16 (by decide +kernel))).trans hK.2.2.2.1) n1 a1 (fun x => (f1 23 x (x_nm x (by decide +kernel))).trans (hK.2.2.2.2.2.2 x)))
    have M1 := q_JM_lo hP hM f1 (by decide +kernel)
    refine m I1 _ M1 (fun h => absurd hd h) (fun _ I2 f2 n2 a2 => ⟨rfl, ?_, rfl⟩)
    have hKm := M1.2.1
    have e := hKm.2.2.2.2.2.2.2.1
    refine q_J_end (I1 := I1) hP' C1 (Or.inl b1) f2 (by decide +kernel) (by decide +kernel) (q_JM_v M1 (x_fr_mono f2 (by decide +kernel)) (q_Km_eq hKm (f2 _ _ rfl) (f2 _ _ rfl) (f2 _ _ rfl) (fun k => f2 184 k rfl) (fun k => f2 186 k rfl) (fun k => f2 188 k rfl) (fun k => f2 189 k rfl) (q_LM_S f2 (by decide) hKm.2.2.2.1) ((f2 _ _ rfl).trans hKm.2.2.2.2.2.2.1) n2 (q_Am_cg a2 (fun j _ k hk => q_h1_cg e j hk))))
theorem j_shut {g : x_G} {k : Nat} {w0 : x_W} (hJ : q_J w0) {r : Int} (hr : x_rg r) : q_call g (k + 140) 133 244 [x_i r] w0 := by
  obtain ⟨I, L, lp, tp⟩ := w0
  obtain ⟨a, hP, hC, hB, hM⟩ := hJ
  dsimp only at hC hB hM
  have hR := q_R8 hP
  obtain ⟨D, hN, -⟩ := q_Hk_d hP.2.2.2.1
  refine q_act hP hC hB hM ((0 ≤ r ∧ r < (j_R a : Int)) ∧ q_vN (j_v a) (16 + r.toNat) = 0) 0 1 (q_up (q_vN (j_v a)) (16 + r.toNat) 1) (fun h => ⟨fun D h1 => q_Nk_s h1 hR (by omega), fun lg D h1 => q_Lr_up h1 (by omega)⟩) (fun Q q0 q1 => x_le (show 6 ≤ k + 140 by omega) (c_shut (k := 0) hR hC.2.1.1.1 hC.2.1.2.2.2.2.1 hC.2.1.2.2.2.2.2.1 hr q0 (fun h1 h2 => q1 ⟨h1, h2⟩))) (fun I1 Q M1 q0 q1 => ?_)
  have e := M1.2.1.2.2.2.2.2.2.2.1
  refine x_le (show 4 ≤ k + 140 by omega) (m_shut (k := 0) hR M1.2.1.1 M1.2.1.2.2.2.2.2.2.2.2 (fun r hr => by rw [e (16 + r) (by omega)]; exact (hN.1 r hr).2.2) hr (fun h => q0 (fun h2 => h ⟨h2.1, by rw [e _ (by omega)]; exact h2.2⟩)) (fun h1 h2 I' f' n' => q1 ⟨h1, by rw [← e _ (by omega)]; exact h2⟩ I' f' (fun x hx => ?_)))
  rw [n' x]
  unfold q_up
  rw [e x hx]
theorem j_wheels {g : x_G} {k : Nat} {w0 : x_W} (hJ : q_J w0) {o : Int} (ho : o = 0 ∨ o = 1) : q_call g (k + 140) 134 245 [x_i o] w0 := by
  obtain ⟨I, L, lp, tp⟩ := w0
  obtain ⟨a, hP, hC, hB, hM⟩ := hJ
  dsimp only at hC hB hM
  have hR := q_R8 hP
  obtain ⟨D, hN, -⟩ := q_Hk_d hP.2.2.2.1
  have hp : ¬ j_R a = 0 → 1 ≤ q_vN (j_v a) 24 ∧ q_vN (j_v a) 24 ≤ 5 := hN.2.2.1
  refine q_act hP hC hB hM (¬ j_R a = 0 ∧ ¬ q_vN (j_v a) 24 = (if o = 0 then 5 else 1)) (-1) (q_vN (j_v a) 24 + (if o = 0 then 1 else -1)) (q_up (q_vN (j_v a)) 24 (q_vN (j_v a) 24 + (if o = 0 then 1 else -1))) (fun h => ⟨fun D h1 => q_Nk_24 h1 ?_, fun lg D h1 => q_Lr_up h1 (by omega)⟩) (fun Q q0 q1 => x_le (show 6 ≤ k + 140 by omega) (c_wheels (k := 0) hR hC.2.1.1.1 hC.2.1.2.2.2.2.1 hC.2.1.2.2.2.2.2.1 hp ho (fun h => q0 (fun h2 => h.elim h2.1 h2.2)) (fun h1 h2 => q1 ⟨h1, h2⟩))) (fun I1 Q M1 q0 q1 => ?_)
  · have := hp h.1
    have h2 := h.2
    rcases ho with rfl | rfl
    · rw [if_pos rfl] at h2 ⊢; omega
    · rw [if_neg (by decide)] at h2 ⊢; omega
  · have e := M1.2.1.2.2.2.2.2.2.2.1
    have e24 := e 24 (by omega)
    refine x_le (show 2 ≤ k + 140 by omega) (m_wheels (k := 0) hR M1.2.1.1 M1.2.1.2.2.2.2.2.2.2.2 (by rw [e24]; exact hp) ho (by rw [e24]; exact fun h => q0 (fun h2 => h.elim h2.1 h2.2)) (by
      rw [e24]
      exact fun h1 h2 I' f' n' => q1 ⟨h1, h2⟩ I' f' (fun x hx => by
        rw [n' x]
        unfold q_up
        rw [e x hx])))
theorem j_fill {g : x_G} {k : Nat} {w0 : x_W} (hJ : q_J w0) {w v : Int} (hw : x_rg w) (hv : x_rg v) : q_call g (k + 140) 136 247 [x_i w, x_i v] w0 := by
  obtain ⟨I, L, lp, tp⟩ := w0
  obtain ⟨a, hP, hC, hB, hM⟩ := hJ
  dsimp only at hC hB hM
  have hR := q_R8 hP
  obtain ⟨D, hN, -⟩ := q_Hk_d hP.2.2.2.1
  have n25 := hN.2.2.2.1
  have n26 := hN.2.2.2.2.1
  refine q_act hP hC hB hM (¬ j_R a = 0 ∧ ((w = 0 ∧ 10 ≤ v ∧ v ≤ 99 ∧ ¬ v = q_vN (j_v a) 25) ∨ (w = 1 ∧ 1 ≤ v ∧ v ≤ 60 ∧ ¬ v = q_vN (j_v a) 26))) (-1) (q_vN (j_v a) (25 + w.toNat)) (q_up (q_vN (j_v a)) (25 + w.toNat) v) (fun h => ⟨fun D h1 => ?_, fun lg D h1 => q_Lr_up h1 (by omega)⟩) (fun Q q0 q1 => x_le (show 6 ≤ k + 140 by omega) (c_fill (k := 0) hR hC.2.1.1.1 hC.2.1.2.2.2.2.1 hC.2.1.2.2.2.2.2.1 ⟨by omega, by omega⟩ ⟨by omega, by omega⟩ hw hv q0 q1)) (fun I1 Q M1 q0 q1 => ?_)
  · rcases h.2 with h | h
    · rw [h.1]; exact q_Nk_25 h1 (by omega)
    · rw [h.1]; exact q_Nk_26 h1 (by omega)
  · have e := M1.2.1.2.2.2.2.2.2.2.1
    have e25 := e 25 (by omega)
    have e26 := e 26 (by omega)
    refine x_le (show 3 ≤ k + 140 by omega) (m_fill (k := 0) hR M1.2.1.1 M1.2.1.2.2.2.2.2.2.2.2 (by rw [e25]; exact ⟨by omega, by omega⟩) (by rw [e26]; exact ⟨by omega, by omega⟩) hw hv (by rw [e25, e26]; exact q0) (by
      rw [e25, e26]
      intro h I' f' n'
      rw [e (25 + w.toNat) (by omega)]
      exact q1 h I' f' (fun x hx => by
        rw [n' x]
        unfold q_up
        rw [e x hx])))
theorem j_move {g : x_G} {k : Nat} {w0 : x_W} (hJ : q_J w0) {f t n : Int} (hf : x_rg f) (ht : x_rg t) (hn : x_rg n) : q_call g (k + 140) 135 246 [x_i f, x_i t, x_i n] w0 := by
  obtain ⟨I, L, lp, tp⟩ := w0
  obtain ⟨a, hP, hC, hB, hM⟩ := hJ
  dsimp only at hC hB hM
  have hR := q_R8 hP
  obtain ⟨D, hN, -⟩ := q_Hk_d hP.2.2.2.1
  refine q_act hP hC hB hM (0 ≤ f ∧ f < (j_R a : Int) ∧ 0 ≤ t ∧ t < (j_R a : Int) ∧ ¬ f = t ∧ 1 ≤ n ∧ n ≤ 9 ∧ n ≤ q_vN (j_v a) f.toNat ∧ q_vN (j_v a) t.toNat + n ≤ 9) (-1) (q_vN (j_v a) t.toNat + n) (q_up (q_up (q_vN (j_v a)) f.toNat (q_vN (j_v a) f.toNat - n)) t.toNat (q_vN (j_v a) t.toNat + n)) (fun h => ⟨fun D h1 => ?_, fun lg D h1 => q_Lr_up (q_Lr_up h1 (by omega)) (by omega)⟩) (fun Q q0 q1 => x_le (show 6 ≤ k + 140 by omega) (c_move (k := 0) hR hC.2.1.1.1 hC.2.1.2.2.2.2.1 hC.2.1.2.2.2.2.2.1 (fun r hr => (hN.1 r hr).1) hf ht hn q0 q1)) (fun I1 Q M1 q0 q1 => ?_)
  · have a1 := (h1.1 f.toNat (by omega)).1
    have a2 := (h1.1 t.toNat (by omega)).1
    exact q_Nk_w (q_Nk_w h1 hR (by omega) (by omega)) hR (by omega) (by omega)
  · have e := M1.2.1.2.2.2.2.2.2.2.1
    refine x_le (show 3 ≤ k + 140 by omega) (m_move (k := 0) hR M1.2.1.1 M1.2.1.2.2.2.2.2.2.2.2 (fun r hr => by rw [e r (by omega)]; exact (hN.1 r hr).1) hf ht hn (fun h => q0 (fun h2 => h ?_)) (fun h I' f' n' => ?_))
    · rw [e f.toNat (by omega), e t.toNat (by omega)]; exact h2
    · rw [e f.toNat (by omega), e t.toNat (by omega)] at h n'
      rw [e t.toNat (by omega)]
      exact q1 h I' f' (fun x hx => by
        rw [n' x]
        unfold q_up
        rw [e x hx])
