/-! the script's cells are read only: worlds with the script as whole numbers in range; calls of the law -/
theorem x_wf {g : x_G} {k mid : Nat} {as : List x_V} {w : x_W} {Q : x_Q} (h : x_X g k mid as w Q) : x_X g k mid as w (fun rv w1 => (∀ j, Int32.ofInt (w1.1 6000 j) = g.1.2.2.2.2.2 6000 j) ∧ Q rv w1) := by
  intro hn d hd
  have h := h hn d hd
  unfold am_Cl Met MetFree at h ⊢
  intro p e h1 h2 h3 s m args below h4 h5 h6 h7
  obtain ⟨n, o, a1, a2, a3, ⟨⟨⟨r, w', b1, b2, b3, b4⟩, b5⟩, c⟩⟩ := h p e h1 h2 h3 s m args below h4 h5 h6 h7
  refine ⟨n, o, a1, a2, a3, ⟨⟨⟨r, w', b1, b2, ?_, b4⟩, b5⟩, c⟩⟩
  obtain ⟨r', w1, e1, e2, e3⟩ := b3
  refine ⟨r', w1, e1, e2, fun j => ?_, e3⟩
  have := (b4.1.2.2.2 6000 (by decide)).2.1 j
  rw [e2] at this
  exact this
def q_scp (g : x_G) (j : Nat) : Int := (g.1.2.2.2.2.2 6000 j).toInt
def q_nz (g : x_G) (w : x_W) : x_W := ((fun a j => if a = 6000 then q_scp g j else w.1 a j), w.2)
theorem q_nz_cW {g : x_G} {n : Nat} {w : x_W} (h : ∀ j, Int32.ofInt (w.1 6000 j) = g.1.2.2.2.2.2 6000 j) : x_cW n (q_nz g w) = x_cW n w := by
  have e : x_cI (q_nz g w).1 = x_cI w.1 := by
    funext a j
    show Int32.ofInt (if a = 6000 then q_scp g j else w.1 a j) = Int32.ofInt (w.1 a j)
    by_cases c : a = 6000
    · rw [if_pos c, c, h j]
      unfold q_scp
      rw [Int32.ofInt_toInt]
    · rw [if_neg c]
  unfold x_cW
  rw [e]
  rfl
theorem q_nz_X {g : x_G} {k mid : Nat} {as : List x_V} {w : x_W} {Q : x_Q} (h : ∀ j, Int32.ofInt (w.1 6000 j) = g.1.2.2.2.2.2 6000 j) (hx : x_X g k mid as w Q) : x_X g k mid as (q_nz g w) Q := fun hn d hd => by
  rw [q_nz_cW h]
  exact hx hn d hd
/-- a call's result with the script in range -/
theorem x_nz {g : x_G} {k mid : Nat} {as : List x_V} {w : x_W} {Q Q' : x_Q} (h : x_X g k mid as w Q) (hq : ∀ rv w1, (∀ j, Int32.ofInt (w1.1 6000 j) = g.1.2.2.2.2.2 6000 j) → Q rv w1 → Q' rv (q_nz g w1)) : x_X g k mid as w Q' := fun hn d hd => am_Cl_mono (x_wf h hn d hd) (fun r w ⟨r', w', e1, e2, e3, e4⟩ => ⟨r', q_nz g w', e1, by rw [q_nz_cW e3]; exact e2, hq _ _ e3 e4⟩)
theorem q_str_ne {I I' : Nat → Nat → Int} (h5 : q_str I) (e : ∀ a k, a ≠ 6000 → I' a k = I a k) : q_str I' := by
  obtain ⟨⟨a1, a2, a3, a4⟩, a5, ⟨b1, b2, b3, b4, b5, b6⟩, ⟨c1, c2, c3, c4⟩, d1, d2, d3, d4, d5⟩ := h5
  exact ⟨⟨(e _ _ (by decide)).trans a1, (e _ _ (by decide)).trans a2, (e _ _ (by decide)).trans a3, (e _ _ (by decide)).trans a4⟩, (e _ _ (by decide)).trans a5, ⟨(e _ _ (by decide)).trans b1, (e _ _ (by decide)).trans b2, (e _ _ (by decide)).trans b3, (e _ _ (by decide)).trans b4, (e _ _ (by decide)).trans b5, (e _ _ (by decide)).trans b6⟩, ⟨(e _ _ (by decide)).trans c1, (e _ _ (by decide)).trans c2, (e _ _ (by decide)).trans c3, (e _ _ (by decide)).trans c4⟩, (e _ _ (by decide)).trans d1, (e _ _ (by decide)).trans d2, (e _ _ (by decide)).trans d3, (e _ _ (by decide)).trans d4, (e _ _ (by decide)).trans d5⟩
theorem q_JC_ne {I I' : Nat → Nat → Int} {lp : Nat} {a : q_A} (hP : q_JP a) (h : q_JC I lp a) (e : ∀ b k, b ≠ 6000 → I' b k = I b k) : q_JC I' lp a := by
  obtain ⟨h1, h2, ⟨h3, h4⟩, h5, h6, h7, ⟨h8, h9⟩, h10, h11, h12, h13, h14⟩ := h
  have hR := q_R8 hP
  have n4 := hP.2.2.2.2.1
  have nr4 := hP.2.1.1
  refine ⟨q_Tc_x h1 (e 2 1 (by decide)) (fun k => e 3 k (by decide)), ⟨q_Oc_ag hR h2.1 (fun b k hm => e b k ?_), q_Lc_ag h2.2.1 (fun b k hm => e b k ?_), ⟨(e 1 15 (by decide)).trans h2.2.2.1.1, fun j hj x hx => (e (150 + j) x (by have : j < j_nr a := hj; omega)).trans (h2.2.2.1.2 j hj x hx)⟩, (e 1 16 (by decide)).trans h2.2.2.2.1, q_St_eq h2.2.2.2.2.1 (fun k _ _ => e 18 k (by decide)) (fun k _ => ⟨e 19 k (by decide), e 20 k (by decide)⟩), q_Ac_fr h2.2.2.2.2.2.1 (e 21 4 (by decide)) (e 21 5 (by decide)) (fun b k _ _ => e b k (by omega)), fun x => (e 23 x (by decide)).trans (h2.2.2.2.2.2.2 x)⟩, ⟨(e 1 13 (by decide)).trans h3, fun j hj => q_C1_eq (h4 j hj) (fun i _ => e _ i (by have : j < j_nl a := hj; omega)) (e _ 2 (by have : j < j_nl a := hj; omega))⟩, (e 1 14 (by decide)).trans h5, h6, (e 1 17 (by decide)).trans h7, ⟨(e 21 6 (by decide)).trans h8, fun ei => ⟨q_St_eq (h9 ei).1 (fun k _ _ => e 24 k (by decide)) (fun k _ => ⟨e 25 k (by decide), e 26 k (by decide)⟩), fun x hx => (e 27 x (by decide)).trans ((h9 ei).2 x hx)⟩⟩, q_Sx_eq h10 (fun r => e 163 r (by decide)) (fun r => e 164 r (by decide)), (e 162 6 (by decide)).trans h11, fun j hj => (e _ _ (by decide)).trans (h12 j hj), ⟨fun w hw => ⟨(e _ _ (by decide)).trans (h13.1 w hw).1, (e _ _ (by decide)).trans (h13.1 w hw).2.1, (e _ _ (by decide)).trans (h13.1 w hw).2.2⟩, fun w hw => ⟨(e _ _ (by decide)).trans (h13.2 w hw).1, (e _ _ (by decide)).trans (h13.2 w hw).2.1, (e _ _ (by decide)).trans (h13.2 w hw).2.2⟩⟩, q_str_ne h14 e⟩
  · intro eb; subst eb; rw [x_nm k (by decide)] at hm; cases hm
  · intro eb; subst eb; rw [x_nm k (by decide)] at hm; cases hm
theorem q_LM_ne {I I' L : Nat → Nat → Int} {FA : Nat → q_AV} {nl : Nat} (h : q_LM I L FA nl) (e : ∀ b k, b ≠ 6000 → I' b k = I b k) : q_LM I' L FA nl := by
  obtain ⟨h1, h2, h3, h4, h5⟩ := h
  refine ⟨h1, fun j hj => ?_, fun p hp => ?_, ?_, q_str_ne h5 e⟩
  · obtain ⟨b, n, C, t1, t2, t3, t4, t5, t6⟩ := h2 j hj
    exact ⟨b, n, C, (e _ _ (by decide)).trans t1, t2, fun x hx => by rw [e 181 _ (by decide)]; exact t3 x hx, fun x hx => by rw [e 181 _ (by decide)]; exact t4 x hx, t5, t6⟩
  · obtain ⟨m1, m2⟩ := h3 p hp
    refine ⟨m1, ?_⟩
    rw [e 195 p (by decide)]
    exact m2
  · unfold q_le
    rw [e 183 109 (by decide), e 183 104 (by decide), e 183 102 (by decide), e 183 100 (by decide), e 183 107 (by decide), e 183 110 (by decide)]
    exact h4
theorem q_J_ne {I I' L : Nat → Nat → Int} {lp tp : Nat} (h : q_J (I, L, lp, tp)) (e : ∀ b k, b ≠ 6000 → I' b k = I b k) : q_J (I', L, lp, tp) := by
  obtain ⟨a, hP, hC, hB, hM⟩ := h
  refine ⟨a, hP, q_JC_ne hP hC e, ?_, ?_⟩
  · show q_Bk I' (j_z a)
    unfold q_Bk
    rw [e 161 1 (by decide), e 161 3 (by decide), e 161 4 (by decide)]
    exact hB
  · dsimp only at hM ⊢
    obtain ⟨h1, h2, h3, h4, h5, ⟨h6, h7⟩, s1, s2, s3, s4⟩ := hM
    obtain ⟨k1, k2, k3, k4, k5, ⟨k6, k7⟩, k8, k9, k10⟩ := h2
    refine ⟨⟨(e _ _ (by decide)).trans h1.1, h1.2.1, fun k hk => (e 180 k (by decide)).trans (h1.2.2.1 k hk), h1.2.2.2⟩, ⟨(e _ _ (by decide)).trans k1, fun k hk => (e 184 k (by decide)).trans (k2 k hk), fun k hk => (e 186 k (by decide)).trans (k3 k hk), q_LM_ne k4 e, ?_, ⟨(e _ _ (by decide)).trans k6, fun j hj => q_Rm_eq (k7 j hj) (fun k => e 188 k (by decide)) (fun k => e 189 k (by decide))⟩, (e _ _ (by decide)).trans k8, fun x hx => (e 190 x (by decide)).trans (k9 x hx), ⟨(e _ _ (by decide)).trans k10.1, k10.2.1, fun j hj k hk => (e 196 _ (by decide)).trans (k10.2.2 j hj k hk)⟩⟩, (e _ _ (by decide)).trans h3, (e _ _ (by decide)).trans h4, (e _ _ (by decide)).trans h5, ⟨(e _ _ (by decide)).trans h6, fun ei x hx => (e 202 x (by decide)).trans (h7 ei x hx)⟩, ⟨(e _ _ (by decide)).trans s1, s2, fun k hk => by rw [e 197 k (by decide), e 198 k (by decide), e 201 k (by decide)]; exact s3 k hk, fun r hr T t0 t1 => ?_⟩⟩
    · unfold q_LH
      rw [e 179 29 (by decide)]
      exact k5
    · exact (s4 r hr T t0 t1).trans ⟨fun h k hk => by rw [e 197 k (by decide), e 198 k (by decide), e 201 k (by decide)]; exact h k hk, fun h k hk => by have := h k hk; rw [e 197 k (by decide), e 198 k (by decide), e 201 k (by decide)] at this; exact this⟩
theorem q_J_nz {g : x_G} {w : x_W} (h : q_J w) : q_J (q_nz g w) := by
  obtain ⟨I, L, lp, tp⟩ := w
  exact q_J_ne h (fun b k hb => if_neg hb)
/-- what holds at the head of the law's loop -/
def q_LI (g : x_G) (w : x_W) : Prop := q_J w ∧ ∀ j, w.1 6000 j = q_scp g j
theorem q_nz_6 (g : x_G) (w : x_W) (j : Nat) : (q_nz g w).1 6000 j = q_scp g j := by
  show (if 6000 = 6000 then q_scp g j else w.1 6000 j) = _
  rw [if_pos rfl]
theorem q_LI_nz {g : x_G} {w : x_W} (h : q_J w) : q_LI g (q_nz g w) := ⟨q_J_nz h, q_nz_6 g w⟩
theorem q_callX {g : x_G} {k mc mm : Nat} {as : List x_V} {w : x_W} (h : q_call g k mc mm as w) : x_X g k mc (x_r 1 :: as) w (fun rv w1 => ∃ z, rv = [x_i z] ∧ (∀ j, w1.1 6000 j = q_scp g j) ∧ x_X g k mm (x_r 179 :: as) w1 (fun rv w2 => ∃ z', rv = [x_i z'] ∧ x_rg z ∧ x_rg z' ∧ z = z' ∧ q_LI g w2)) := x_nz (q_call_n h) (fun rv w1 e1 ⟨z, e2, e3, e4⟩ => ⟨z, e2, q_nz_6 g w1, q_nz_X e1 (x_nz e4 (fun rv w2 f1 ⟨f2, f3, _⟩ => ⟨z, f2, e3, e3, rfl, q_LI_nz f3⟩))⟩)
