/-! the law's loop is reached, and what holds between calls holds there -/
noncomputable def cr_x (g : x_G) (l : cr_D) : x_W := (fun a k => ((cr_w (cr_b0 g) l).2.1 a k).toInt, fun a k => ((cr_w (cr_b0 g) l).2.2.1 a k).toInt, 0, 180)
def cr_gd (l : cr_D) : Prop := l.all cr_c1 = true ∧ l.all cr_c2 = true ∧ (∀ a, a < 204 → cr_sh l 204 a = x_s0 a) ∧ cr_zr l 204 = true ∧ (∀ a k, a < 204 → k < 64 → x_R 0 180 a k ≠ 0 → cr_R l 204 a k = x_R 0 180 a k) ∧ ∀ p ∈ cr_K0, cr_I l 204 p.1 p.2 = -1
theorem cr_Se_gd : cr_gd cr_Se.1 := ⟨cr_Se_c1, cr_Se_c2, fun a h => of_decide_eq_true (List.all_eq_true.mp cr_Se_sh a (List.mem_range.mpr h)), cr_Se_zr, fun _ _ h hk h0 => cr_Se_R h hk h0, fun p hp => of_decide_eq_true (List.all_eq_true.mp cr_Se_I p hp)⟩
theorem cr_world {g : x_G} {l : cr_D} (h5 : g.1.2.2.2.2.2 5101 1 = 0) (hG : cr_gd l) (hn : (cr_w (cr_b0 g) l).2.2.2.2 = (204, 203, 30530)) : cr_w (cr_b0 g) l = am_zc (x_cW g.2.2 (cr_x g l)) 203 30530 := by
  have hb := cr_b0_ok h5
  obtain ⟨c1, c2, csh, czr, cR, -⟩ := hG
  have hx : (cr_w (cr_b0 g) l).2.2.2.2.1 = 204 := by rw [hn]
  refine Prod.ext (funext fun a => ?_) (Prod.ext (funext fun a => funext fun k => ?_) (Prod.ext (funext fun a => funext fun k => ?_) (Prod.ext (funext fun a => funext fun k => ?_) hn)))
  · show (cr_w (cr_b0 g) l).1 a = x_sh g.2.2 a
    rcases Nat.lt_or_ge a 204 with h | h
    · rw [cr_w_sh hb _ 204 a hx (by omega)]
      rw [csh a h]
      unfold x_sh
      rw [x_nbeq (show ¬ a = 6000 by omega), cond_false]
    · rw [(cr_w_far h _ c1 c2 (by omega)).1]
      rcases Nat.lt_or_ge a 5000 with h2 | h2
      · rw [(hb.1 a h2).1]
        have := of_decide_eq_true (List.all_eq_true.mp cr_s0_mid (a - 204) (List.mem_range.mpr (by omega)))
        rw [show a - 204 + 204 = a by omega] at this
        unfold x_sh
        rw [x_nbeq (show ¬ a = 6000 by omega), cond_false, this]
      · exact (hb.2.1 a h2).1
  · show (cr_w (cr_b0 g) l).2.1 a k = Int32.ofInt ((cr_w (cr_b0 g) l).2.1 a k).toInt
    rw [Int32.ofInt_toInt]
  · show (cr_w (cr_b0 g) l).2.2.1 a k = Int64.ofInt ((cr_w (cr_b0 g) l).2.2.1 a k).toInt
    rw [Int64.ofInt_toInt]
  · show (cr_w (cr_b0 g) l).2.2.2.1 a k = x_R 0 180 a k
    rcases Nat.lt_or_ge a 204 with h | h
    · rcases Nat.lt_or_ge k 64 with hk | hk
      · by_cases h0 : x_R 0 180 a k = 0
        · rw [cr_w_R0 hb (by omega) h0 _ 204 czr hx, h0]
        · rw [cr_w_R hb _ 204 a k hx]
          exact cR a k h hk h0
      · rw [cr_w_64 hb (by omega) hk _ c2]
        unfold x_R
        rw [x_nbeq (show ¬ k = 2 by omega), Bool.and_false, cond_false, x_nbeq (show ¬ k = 5 by omega), Bool.and_false, cond_false, cr_r0_64 hk (by omega)]
    · rw [(cr_w_far h _ c1 c2 (by omega)).2.2.2 k]
      unfold x_R
      rw [x_nbeq (show ¬ a = 154 by omega), Bool.false_and, cond_false, x_nbeq (show ¬ a = 179 by omega), Bool.false_and, cond_false]
      rcases Nat.lt_or_ge a 5000 with h2 | h2
      · rw [(hb.1 a h2).2.2.2 k, cr_r0_mid h h2]
      · exact (hb.2.1 a h2).2 k
theorem cr_eta {b : am_W} {S : cr_S} {x : Nat × Nat × Nat} (h : cr_ok b S) (e : S.2 = x) : (cr_w b S.1).2.2.2.2 = x := by
  rw [← e]
  exact h.1
theorem cr_go0 {g : x_G} {k : Nat} {Q : x_Q} {S : cr_S} (hS : cr_end = some ([.ref 6000, .ref 1, .ref 179, .ref 203, .int 0, .retAddr 0, .retAddr 0], [], S)) (hS2 : S.2 = (204, 203, 30530)) (hG : cr_gd S.1) (hn : g.2.2 ≤ 3072) (h5 : g.1.2.2.2.2.2 5101 1 = 0) (hL : (cr_w (cr_b0 g) S.1).2.2.2.2 = (204, 203, 30530) → x_SL g (k + 1) Q 203 30530 13 [x_r 6000, x_r 1, x_r 179, x_r 203, x_i 0, x_n, x_n] [] (cr_x g S.1)) {d : Nat} (hd : k + 1 ≤ d) (hd6 : 6 ≤ d) : am_SmE (am_EL g) g.1 g.2.1 d 286 (x_lL g.2.2 Q) 0 [.ref 6000, .retAddr 0, .retAddr 0, .retAddr 0, .retAddr 0, .retAddr 0, .retAddr 0] [] (cr_b0 g) := by
  obtain ⟨h1, h2⟩ := cr_law_ok (cr_b0_ok h5) (E := am_EL g) (Γ := g.1) (l := g.2.1) (Q := x_lL g.2.2 Q) 20 0 _ _ ([], 1, 0, 0) _ _ _ hS ⟨rfl, (cr_b0_ok h5).2.2.2⟩
  have h3 := cr_eta h1 hS2
  refine h2 d hd6 ?_
  have h4 := hL h3 hn d hd
  rw [← cr_world h5 hG h3] at h4
  exact h4
/-- the ints of the cells that don't change -/
def q_ro (g : x_G) : Nat → Nat → Int := fun a k => (g.1.2.2.2.2.2 a k).toInt
theorem cr_h5 {g : x_G} (ht : q_str (q_ro g)) : g.1.2.2.2.2.2 5101 1 = 0 := by
  have h : (g.1.2.2.2.2.2 5101 1).toInt = (0 : Int32).toInt := ht.1.2.1
  exact Int32.toInt_inj.mp h
theorem cr_J {g : x_G} {l : cr_D} (hf : q_Sf (q_ro g)) (hs : q_sta (q_ro g)) (ht : q_str (q_ro g)) (hG : cr_gd l) (hn : (cr_w (cr_b0 g) l).2.2.2.2 = (204, 203, 30530)) : q_LI g (cr_x g l) := by
  have hb := cr_b0_ok (cr_h5 ht)
  obtain ⟨c1, c2, -, -, -, cI⟩ := hG
  have hx : (cr_w (cr_b0 g) l).2.2.2.2.1 = 204 := by rw [hn]
  have hi : ∀ a k, 5000 ≤ a → (cr_x g l).1 a k = q_ro g a k := fun a k h => by
    show ((cr_w (cr_b0 g) l).2.1 a k).toInt = _
    rw [(cr_w_far (by omega) _ c1 c2 (by omega)).2.1 k]
    show (if a < 5000 then 0 else g.1.2.2.2.2.2 a k).toInt = _
    rw [if_neg (by omega)]
    rfl
  have z : ∀ a k, a < 5000 → cr_K0.any (fun p => Nat.beq p.1 a && Nat.beq p.2 k) = false → (cr_x g l).1 a k = 0 := fun a k h1 h2 => by
    show ((cr_w (cr_b0 g) l).2.1 a k).toInt = 0
    rw [cr_w_I0 hb h1 h2 _ c1]
    rfl
  have m1 : ∀ a k, a < 5000 → (a, k) ∈ cr_K0 → (cr_x g l).1 a k = -1 := fun a k h1 h2 => by
    show ((cr_w (cr_b0 g) l).2.1 a k).toInt = -1
    rw [cr_w_Ik hb h1 _ 204 hx, cI (a, k) h2]
    rfl
  have l0 : ∀ a k, (cr_x g l).2.1 a k = 0 := fun a k => by
    show ((cr_w (cr_b0 g) l).2.2.1 a k).toInt = 0
    rw [cr_w_L]
    rfl
  have n0 : ∀ {j : Nat} {P : Prop}, j < 0 → P := fun h => absurd h (Nat.not_lt_zero _)
  have hS := q_str_fr (S := []) ht hi
  refine ⟨⟨(([] : List Int), (0, fun _ => 0, fun _ => 0), (0, fun _ _ => none, -1), (0, fun _ _ => 0), 0, ((fun _ => 0), (fun _ _ => 0), 0, (fun _ => 0), -1), (0, fun _ => 0, fun _ => 0), ((fun _ => 0), (fun _ => 1000000), 0)), ?_, ?_, ?_, ?_⟩, fun j => (hi 6000 j (by decide)).trans rfl⟩
  · refine ⟨⟨Or.inl rfl, fun h => absurd rfl h, fun r h => n0 h⟩, ⟨by decide, Or.inl rfl, fun j h => n0 h⟩, ⟨by decide, by decide⟩, ⟨by decide, fun _ => 0, fun j h => n0 h, ⟨fun r _ => ⟨⟨(show (0 : Int) ≤ 0 by decide), (show (0 : Int) ≤ 9 by decide)⟩, ⟨(show (0 : Int) ≤ 0 by decide), (show (0 : Int) ≤ 9 by decide)⟩, Or.inl rfl⟩, fun r _ _ => ⟨rfl, rfl⟩, fun h => absurd rfl h, ⟨by decide, by decide⟩, ⟨by decide, by decide⟩, ⟨by decide, by decide⟩, rfl, by decide, fun x _ _ => ⟨(show (0 : Int) ≤ 0 by decide), (show (0 : Int) ≤ 3000 by decide)⟩⟩, ⟨rfl, rfl, fun i w h => absurd h (by show ¬ i < 0; omega)⟩, fun j h => n0 h⟩, by decide, Or.inl rfl, Or.inl rfl, by decide⟩
  · refine ⟨⟨z 2 1 (by decide) rfl, by decide, fun k h => n0 h, fun b h => by cases h⟩, ⟨⟨z 14 3 (by decide) rfl, fun k _ => z 15 k (by decide) rfl, fun k h => absurd h (by show ¬ k < 5 * 0; omega), fun f t h => n0 h, fun t h => n0 h⟩, Or.inl ⟨rfl, if_pos rfl⟩, ⟨z 1 15 (by decide) rfl, fun j h => n0 h⟩, m1 1 16 (by decide) (by decide), ⟨fun r _ => ⟨z 19 r (by decide) rfl, z 20 r (by decide) rfl⟩, ⟨0, by decide, z 18 2 (by decide) rfl, fun r _ => by rw [Nat.zero_testBit]; rfl⟩, z 18 3 (by decide) rfl, z 18 4 (by decide) rfl, z 18 5 (by decide) rfl, z 18 6 (by decide) rfl, z 18 7 (by decide) rfl⟩, ⟨0, by decide, z 21 4 (by decide) rfl, z 21 5 (by decide) rfl, by decide, fun j h => n0 h⟩, fun x => z 23 x (by decide) rfl⟩, ⟨z 1 13 (by decide) rfl, fun j h => n0 h⟩, m1 1 14 (by decide) (by decide), (if_pos rfl).symm, z 1 17 (by decide) rfl, ⟨z 21 6 (by decide) rfl, fun h => absurd h (by decide)⟩, ⟨fun _ => 0, fun r _ => ⟨z 163 r (by decide) rfl, z 164 r (by decide) rfl, ⟨(show (0 : Int) ≤ 0 by decide), (show (0 : Int) ≤ 1000 by decide)⟩, (show (0 : Int) ≤ 0 by decide), (show (0 : Int) ≤ 1000000 by decide)⟩, fun h => absurd rfl h⟩, z 162 6 (by decide) rfl, q_Sf_fr hf hi, q_sta_fr hs hi, hS⟩
  · exact Or.inl (z 161 1 (by decide) rfl)
  · have m6 : ∀ k, q_m6 ((cr_x g l).1 183 k) := fun k => by rw [z 183 k (by decide) rfl]; exact ⟨by decide, by decide⟩
    refine ⟨⟨z 179 6 (by decide) rfl, by decide, fun k h => n0 h, fun b h => by cases h⟩, ⟨z 179 24 (by decide) rfl, fun k _ => z 184 k (by decide) rfl, fun k h => absurd h (by show ¬ k < 5 * 0; omega), ⟨by decide, fun j h => n0 h, fun p _ => ⟨by rw [l0]; exact ⟨by decide, by decide⟩, Or.inl (l0 194 p)⟩, ⟨m6 _, m6 _, m6 _, m6 _, m6 _, m6 _⟩, hS⟩, Or.inl ⟨m1 179 29 (by decide) (by decide), if_pos rfl⟩, ⟨z 179 26 (by decide) rfl, fun j h => n0 h⟩, m1 179 30 (by decide) (by decide), fun x _ => z 190 x (by decide) rfl, ⟨z 179 46 (by decide) rfl, by decide, fun j h => n0 h⟩⟩, z 179 7 (by decide) rfl, m1 179 29 (by decide) (by decide), z 179 31 (by decide) rfl, ⟨z 179 61 (by decide) rfl, fun h => absurd h (by decide)⟩, ⟨z 179 55 (by decide) rfl, by decide, fun k h => n0 h, fun r _ T t0 t1 => ⟨fun _ k h => n0 h, fun _ => ⟨t0, t1⟩⟩⟩⟩
