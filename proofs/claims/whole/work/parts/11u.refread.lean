/-! The reference reads a law: clauses, the whole -/
theorem m_partB {g : x_G} {b : Nat → Int} {n : Nat} {lt : Nat → Int} {f : Nat} (hlt : ∀ j, j < 6 → q_m6 (lt j)) {i a : Nat} {cs : List Int} {v : q_LV} {r : Nat ⊕ (Nat × List Int × q_LV)} {k : Nat} {I L : Nat → Nat → Int} {lp tp : Nat} {Q : x_Q} (h : (q_bd (q_p b n f 6 0 i cs v) fun j3 c3 v3 => q_p b n f 8 0 j3 c3 v3) = some r) (hB : q_MB I tp b n lt) (hM : q_MA I b n a i 0) (vm : q_m6 (v lt)) (hk : 80 ≤ k) (hQ : q_PM b n lt 0 Q I L lp tp 8 r) : x_X g k 206 [x_r 179, x_i 1, x_i (v lt)] (I, L, lp, tp) Q := by
  obtain ⟨k, rfl⟩ : ∃ k', k = k' + 2 := ⟨k - 2, by omega⟩
  obtain ⟨h0, h1, h2, h3, h4, h5, h6, h7, h8, h9, h10⟩ := m_pieces g b n lt hlt f
  obtain ⟨l0, lA, lV, li, r1, r2, -⟩ := q_ML hB hM
  have hn := hB.2.2.2.1
  refine v_part ⟨by decide, fun q => absurd q (by decide), fun _ => ?_⟩
  rcases q_bd_some h with ⟨e, e1, e2⟩ | ⟨j, c, w, e1, e2⟩
  · have he := q_p_er _ _ _ _ _ _ _ _ _ e1 li
    refine m_compB h6 e1 hB hM (by decide) vm (by omega) ⟨fun e' he' z I' hz f' h11 => ?_, fun j c w hj => (by cases hj)⟩
    cases he'
    refine ⟨z, rfl, v_part_L10 ?_⟩
    rw [h11]
    exact ⟨⟨by omega, by omega⟩, fun _ => ⟨hz.2 (by decide), hQ.1 _ e2 z _ ⟨hz.1, fun q => hz.2 (by omega)⟩ f' h11⟩, fun q => by omega⟩
  · have hx := (q_p_ex b n lt hlt f 6 0 i cs v j c w e1 (by decide) ⟨fun _ => vm, by omega⟩).1
    refine m_compB h6 e1 hB hM (by decide) vm (by omega) ⟨fun e' he' => (by cases he'), fun j' c' w' hj I' a' f' A' => ?_⟩
    cases hj
    exact ⟨_, rfl, h8 0 j a' c w r (k + 2) I' L lp tp Q e2 (q_MB_fr hB f') A' (by decide) ⟨fun _ => hx.1, fun q => hx.2 (by omega)⟩ (by omega) (q_PM_tr hQ f')⟩
theorem q_tB_er {b : Nat → Int} {n f i : Nat} {cs : List Int} {v : q_LV} {e : Nat} (h : (q_bd (q_p b n f 6 0 i cs v) fun j3 c3 v3 => q_p b n f 8 0 j3 c3 v3) = some (.inl e)) (hi : i ≤ n) : e ≤ n := by
  rcases q_bd_er h with e1 | ⟨j1, c1, w1, e1, e2⟩
  · exact (q_p_er _ _ _ _ _ _ _ _ _ e1 hi).2
  · exact (q_p_er _ _ _ _ _ _ _ _ _ e2 (q_p_pk _ _ _ _ _ _ _ _ _ _ _ e1 hi).2.1).2
theorem q_cB_er {b : Nat → Int} {n f i : Nat} {cs : List Int} {v : q_LV} {e : Nat} (h : q_cB b n f i cs v = some (.inl e)) (hi : i ≤ n) : e ≤ n := by
  rcases q_bd_er h with e1 | ⟨j1, c1, w1, e1, e2⟩
  · exact q_tB_er e1 hi
  · exact (q_p_er _ _ _ _ _ _ _ _ _ e2 (q_tB_pk e1 hi).2.1).2
theorem q_tB_bo {b : Nat → Int} {n : Nat} {lt : Nat → Int} {f : Nat} (hlt : ∀ j, j < 6 → q_m6 (lt j)) {i : Nat} {cs : List Int} {v : q_LV} {j : Nat} {c : List Int} {w : q_LV} (h : (q_bd (q_p b n f 6 0 i cs v) fun j3 c3 v3 => q_p b n f 8 0 j3 c3 v3) = some (.inr (j, c, w))) (vm : q_m6 (v lt)) : q_bo (w lt) := by
  obtain ⟨j1, c1, w1, e1, e2⟩ := q_bd_ok h
  have hx := (q_p_ex b n lt hlt _ _ _ _ _ _ _ _ _ e1 (by decide) ⟨fun _ => vm, by omega⟩).1
  exact (q_p_ex b n lt hlt _ _ _ _ _ _ _ _ _ e2 (by decide) ⟨by omega, fun _ => hx.2 (by decide)⟩).1.2 (by decide)
theorem q_cB_bo {b : Nat → Int} {n : Nat} {lt : Nat → Int} {f : Nat} (hlt : ∀ j, j < 6 → q_m6 (lt j)) {i : Nat} {cs : List Int} {v : q_LV} {j : Nat} {c : List Int} {w : q_LV} (h : q_cB b n f i cs v = some (.inr (j, c, w))) (vm : q_m6 (v lt)) : q_bo (w lt) := by
  obtain ⟨j1, c1, w1, e1, e2⟩ := q_bd_ok h
  have hx := q_tB_bo hlt e1 vm
  exact (q_p_ex b n lt hlt _ _ _ _ _ _ _ _ _ e2 (by decide) ⟨by omega, fun _ => hx⟩).1.2 (by decide)
theorem m_condB {g : x_G} {b : Nat → Int} {n : Nat} {lt : Nat → Int} {f : Nat} (hlt : ∀ j, j < 6 → q_m6 (lt j)) {i a : Nat} {cs : List Int} {v : q_LV} {r : Nat ⊕ (Nat × List Int × q_LV)} {k : Nat} {I L : Nat → Nat → Int} {lp tp : Nat} {Q : x_Q} (h : q_cB b n f i cs v = some r) (hB : q_MB I tp b n lt) (hM : q_MA I b n a i 0) (vm : q_m6 (v lt)) (hk : 82 ≤ k) (hQ : q_PM b n lt 0 Q I L lp tp 10 r) : x_X g k 207 [x_r 179, x_i 1, x_i (v lt)] (I, L, lp, tp) Q := by
  obtain ⟨k, rfl⟩ : ∃ k', k = k' + 2 := ⟨k - 2, by omega⟩
  obtain ⟨h0, h1, h2, h3, h4, h5, h6, h7, h8, h9, h10⟩ := m_pieces g b n lt hlt f
  obtain ⟨l0, lA, lV, li, r1, r2, -⟩ := q_ML hB hM
  have hn := hB.2.2.2.1
  refine v_condition ?_
  rcases q_bd_some h with ⟨e, e1, e2⟩ | ⟨j, c, w, e1, e2⟩
  · have he := q_tB_er e1 li
    refine m_partB hlt e1 hB hM vm (by omega) ⟨fun e' he' z I' hz f' h11 => ?_, fun j c w hj => (by cases hj)⟩
    cases he'
    refine ⟨z, rfl, v_condition_L5 ?_⟩
    rw [h11]
    exact ⟨⟨by omega, by omega⟩, fun _ => ⟨hz.2 (by decide), hQ.1 _ e2 z _ ⟨hz.1, fun q => hz.2 (by omega)⟩ f' h11⟩, fun q => by omega⟩
  · have hx := q_tB_bo hlt e1 vm
    refine m_partB hlt e1 hB hM vm (by omega) ⟨fun e' he' => (by cases he'), fun j' c' w' hj I' a' f' A' => ?_⟩
    cases hj
    exact ⟨_, rfl, h10 0 j a' c w r (k + 2) I' L lp tp Q e2 (q_MB_fr hB f') A' (by decide) ⟨by omega, fun q => hx⟩ (by omega) (q_PM_tr hQ f')⟩
abbrev q_fG : List (Nat × Nat × Nat) := [(179, 10, 13), (179, 14, 15), (179, 17, 18)]
def q_FA (I : Nat → Nat → Int) (o : Option Int) : Prop := match o with
  | none => I 179 17 = 0 ∧ I 179 14 = 0
  | some x => I 179 17 = 1 ∧ I 179 14 = x
def q_ao (o : Option Int) (y x : Int) : Option Int := match o with
  | some u => some u
  | none => if y = 0 then none else some x
def q_PG (b : Nat → Int) (n : Nat) (lt : Nat → Int) (Q : x_Q) (I L : Nat → Nat → Int) (lp tp : Nat) (o : Option Int) (rc : Nat ⊕ (Nat × List Int × q_LV × q_LV)) : Prop := (∀ e, rc = .inl e → ∀ I', x_fr q_fG I I' → I' 179 11 = (e : Int) → Q [] (I', L, lp, tp)) ∧ (∀ j c v w, rc = .inr (j, c, v, w) → ∀ I' a', x_fr q_fG I I' → q_MA I' b n a' j 0 → q_FA I' (q_ao o (v lt) (w lt)) → Q [] (I', L, lp, tp))
theorem q_PG_tr {b : Nat → Int} {n : Nat} {lt : Nat → Int} {Q : x_Q} {I I1 L : Nat → Nat → Int} {lp tp : Nat} {o : Option Int} {rc : Nat ⊕ (Nat × List Int × q_LV × q_LV)} (h : q_PG b n lt Q I L lp tp o rc) (hf : x_fr q_fM I I1) : q_PG b n lt Q I1 L lp tp o rc := ⟨fun e he I' f' h9 => h.1 e he I' (x_fr_trans (x_fr_mono hf rfl) f') h9, fun j c v w hj I' a' f' hA hF => h.2 j c v w hj I' a' (x_fr_trans (x_fr_mono hf rfl) f') hA hF⟩
def q_tlP (own y z : Int) (Q : x_Q) (w : x_W) : Prop := (x_rg (w.1 179 11)) ∧ ((¬ (w.1 179 11) = (-1) → Q [] w) ∧ ((w.1 179 11) = (-1) → (x_rg (w.1 179 17)) ∧ ((¬ (w.1 179 17) = 0 → Q [] w) ∧ ((w.1 179 17) = 0 → (x_rg (w.1 179 13)) ∧ ((¬ own = (w.1 179 13) → Q [] w) ∧ (own = (w.1 179 13) → (x_rg y) ∧ ((¬ y = 0 → Q [] ((x_u (x_u w.1 179 17 1) 179 14 z), w.2.1, w.2.2.1, w.2.2.2)) ∧ (y = 0 → Q [] w))))))))
theorem q_FA_fr {I I' : Nat → Nat → Int} {o : Option Int} (h : q_FA I o) (hf : x_fr q_fM I I') : q_FA I' o := by
  cases o with
  | none => exact ⟨(hf 179 17 rfl).trans h.1, (hf 179 14 rfl).trans h.2⟩
  | some x => exact ⟨(hf 179 17 rfl).trans h.1, (hf 179 14 rfl).trans h.2⟩
theorem m_tail {b : Nat → Int} {n : Nat} {lt : Nat → Int} {Q : x_Q} {I L : Nat → Nat → Int} {lp tp : Nat} {o : Option Int} {j : Nat} {c : List Int} {v w : q_LV} {a : Nat} (hQ : q_PG b n lt Q I L lp tp o (.inr (j, c, v, w))) (hM : q_MA I b n a j 0) (hF : q_FA I o) (h13 : I 179 13 = 121) (vb : q_bo (v lt)) : q_tlP 121 (v lt) (w lt) Q (I, L, lp, tp) := by
  unfold q_tlP
  dsimp only
  rw [hM.2.2.2.1, h13]
  have h2 := fun I' a' => hQ.2 j c v w rfl I' a'
  cases o with
  | none =>
    rw [hF.1]
    refine ⟨by decide, fun q => absurd rfl q, fun _ => ⟨by decide, fun q => absurd rfl q, fun _ => ⟨by decide, fun q => absurd rfl q, fun _ => ⟨by rcases vb with q | q <;> rw [q] <;> decide, fun q => ?_, fun q => ?_⟩⟩⟩⟩
    · refine h2 _ a (x_fr_u (x_fr_u (x_fr_refl _ _) rfl) rfl) hM ?_
      show q_FA _ (if v lt = 0 then none else some (w lt))
      rw [if_neg q]
      exact ⟨rfl, rfl⟩
    · refine h2 _ a (x_fr_refl _ _) hM ?_
      show q_FA _ (if v lt = 0 then none else some (w lt))
      rw [if_pos q]
      exact hF
  | some u =>
    rw [hF.1]
    exact ⟨by decide, fun q => absurd rfl q, fun _ => ⟨by decide, fun _ => h2 _ a (x_fr_refl _ _) hM hF, fun q => absurd q (by decide)⟩⟩
theorem m_tailE {Q : x_Q} {w : x_W} {own y z : Int} {e : Nat} (h : w.1 179 11 = (e : Int)) (he : e ≤ 1000) (hq : Q [] w) : q_tlP own y z Q w := by
  unfold q_tlP
  rw [h]
  exact ⟨⟨by omega, by omega⟩, fun _ => hq, fun q => by omega⟩
theorem m_case {g : x_G} {b : Nat → Int} {n : Nat} {lt : Nat → Int} {f : Nat} (hlt : ∀ j, j < 6 → q_m6 (lt j)) {j a : Nat} {c : List Int} {v : q_LV} {rc : Nat ⊕ (Nat × List Int × q_LV × q_LV)} {o : Option Int} {k : Nat} {I L : Nat → Nat → Int} {lp tp : Nat} {Q : x_Q} (h : q_case b n f j c v = some rc) (hB : q_MB I tp b n lt) (hM : q_MA I b n a j 0) (hF : q_FA I o) (h13 : I 179 13 = 121) (vb : q_bo (v lt)) (hk : 74 ≤ k) (hQ : q_PG b n lt Q I L lp tp o rc) : x_X g k 197 [x_r 179, x_i 63] (I, L, lp, tp) (fun rv w11 => ∃ z10, rv = [x_i z10] ∧ (x_rg z10) ∧ ((¬ z10 = 0 → x_X g k 202 [x_r 179] w11 (fun rv w15 => ∃ z14, rv = [x_i z14] ∧ q_tlP 121 (v lt) z14 Q w15)) ∧ (z10 = 0 → Q [] w11))) := by
  obtain ⟨h0, h1, h2, h3, h4, h5, h6, h7, h8, h9, h10⟩ := m_pieces g b n lt hlt f
  have hn := hB.2.2.2.1
  unfold q_case at h
  refine x_le (show 3 ≤ k by omega) (s_takes (k := 0) (by decide) hB hM (fun q I1 f1 A1 => ?_) (fun q I1 f1 e1 => ?_))
  · rw [if_pos q] at h
    obtain ⟨a1, a2, a3⟩ := q_s1 (b := b) (n := n) (i := j) (by omega)
    refine ⟨1, rfl, by decide, fun _ => ?_, fun z => absurd z (by decide)⟩
    have B1 := q_MB_fr hB f1
    match e : q_p b n f 3 0 (q_s b n (j + 1)) (c ++ [100000]) q_z, h with
    | none, h => cases h
    | some (.inl e'), h =>
      cases h
      have he := q_p_er _ _ _ _ _ _ _ _ _ e a3
      refine h3 0 _ (j + 1) _ q_z _ k _ L lp tp _ e B1 A1 (by decide) (by omega) ⟨fun e2 he2 z I2 hz f2 h11 => ?_, fun j c w hj => (by cases hj)⟩
      cases he2
      exact ⟨z, rfl, m_tailE h11 (by omega) (hQ.1 _ rfl _ (x_fr_mono (x_fr_trans f1 f2) rfl) h11)⟩
    | some (.inr (j2, c2, w2)), h =>
      cases h
      refine h3 0 _ (j + 1) _ q_z _ k _ L lp tp _ e B1 A1 (by decide) (by omega) ⟨fun e2 he2 => (by cases he2), fun j' c' w' hj I2 a2 f2 A2 => ?_⟩
      cases hj
      have fr := x_fr_trans f1 f2
      exact ⟨_, rfl, m_tail (q_PG_tr hQ fr) A2 (q_FA_fr hF fr) ((fr 179 13 rfl).trans h13) vb⟩
  · rw [if_neg q] at h
    cases h
    exact ⟨0, rfl, by decide, fun z => absurd rfl z, fun _ => hQ.1 _ rfl _ (x_fr_mono f1 rfl) e1⟩
theorem q_ix100 (z : Int) : 0 ≤ q_ix 5100 z ↔ z = 121 := by
  unfold q_ix
  rw [show q_strs 5100 = [121] from rfl]
  simp only [q_ixl]
  by_cases h : z = 121
  · rw [if_pos h]; exact ⟨fun _ => h, fun _ => by decide⟩
  · rw [if_neg h]; exact ⟨fun q => absurd q (by decide), fun q => absurd q h⟩
theorem m_clause {g : x_G} {b : Nat → Int} {n : Nat} {lt : Nat → Int} {f : Nat} (hlt : ∀ j, j < 6 → q_m6 (lt j)) {i a : Nat} {cs : List Int} {rc : Nat ⊕ (Nat × List Int × q_LV × q_LV)} {o : Option Int} {k : Nat} {I L : Nat → Nat → Int} {lp tp : Nat} {Q : x_Q} (h : q_clause b n f i cs = some rc) (hB : q_MB I tp b n lt) (hM : q_MA I b n a i 0) (hF : q_FA I o) (h13 : I 179 13 = 121) (hk : 88 ≤ k) (hQ : q_PG b n lt Q I L lp tp o rc) : x_X g k 208 [x_r 179] (I, L, lp, tp) Q := by
  obtain ⟨k, rfl⟩ : ∃ k', k = k' + 6 := ⟨k - 6, by omega⟩
  obtain ⟨h0, h1, h2, h3, h4, h5, h6, h7, h8, h9, h10⟩ := m_pieces g b n lt hlt f
  obtain ⟨l0, lA, lV, li, r1, r2, -⟩ := q_ML hB hM
  have hn := hB.2.2.2.1
  unfold q_clause at h
  refine v_clause ?_
  rw [lA, lV, x_u_u]
  refine ⟨l0, hB.2.2.2.2.2.2.2.2.2, ⟨by omega, by omega⟩, fun q => ?_, fun q => ?_⟩
  · have q121 := (q_ix100 _).mp q
    rw [if_pos q121] at h
    rw [q121]
    have hi : i < n := q_tk_lt (b := b) (by omega)
    have M1 := q_MA_at (c := i + 1) hM hi
    have B1 := q_MB_fr hB (q_fM10 I ((i + 1 : Nat) : Int))
    refine x_le (show 3 ≤ k by omega) (s_takes (k := 0) (by decide) B1 M1 (fun q2 I1 f1 A1 => ?_) (fun q2 I1 f1 e1 => ?_))
    · rw [if_pos q2] at h
      have f1' := x_fr_trans (q_fM10 I ((i + 1 : Nat) : Int)) f1
      have B2 := q_MB_fr hB f1'
      obtain ⟨m0, mA, mV, mi, s1, s2, -⟩ := q_ML B2 A1
      have hS2 := q_MA_st A1
      generalize hj : q_s b n (q_s b n (i + 1) + 1) = j at *
      have f2 := x_fr_trans f1' (q_fM10 I1 (j : Int))
      have B3 := q_MB_fr hB f2
      have F3 := q_FA_fr hF f2
      have h133 := (f2 179 13 rfl).trans h13
      refine ⟨1, rfl, by decide, fun _ => ⟨m0, ?_⟩, fun z => absurd z (by decide)⟩
      dsimp only
      rw [mA, mV]
      unfold q_cb at h
      have cse : (q_tk b n j = 33 ∨ q_tk b n j = 40) → x_X g k 207 [x_r 179, x_i 0, x_i 0] (x_u I1 179 10 (j : Int), L, lp, tp) (fun rv w8 => ∃ z7, rv = [x_i z7] ∧ x_X g k 197 [x_r 179, x_i 63] w8 (fun rv w11 => ∃ z10, rv = [x_i z10] ∧ (x_rg z10) ∧ ((¬ z10 = 0 → x_X g k 202 [x_r 179] w11 (fun rv w15 => ∃ z14, rv = [x_i z14] ∧ q_tlP 121 z7 z14 Q w15)) ∧ (z10 = 0 → Q [] w11)))) := by
        intro q3
        rw [if_pos q3] at h
        match e : q_p b n f 9 0 j cs q_z, h with
        | none, h => cases h
        | some (.inl e'), h =>
          cases h
          have he := q_p_er _ _ _ _ _ _ _ _ _ e mi
          refine h9 0 _ j _ q_z _ k _ L lp tp _ e B3 hS2 (by decide) (by omega) ⟨fun e2 he2 z I2 hz f3 h11 => ?_, fun j c w hj => (by cases hj)⟩
          cases he2
          exact ⟨z, rfl, x_le (show 3 ≤ k by omega) (s_takesK (k := 0) h11 (by omega) ⟨0, rfl, by decide, fun q => absurd rfl q, fun _ => hQ.1 _ rfl _ (x_fr_mono (x_fr_trans f2 f3) rfl) h11⟩)⟩
        | some (.inr (j2, c2, w2)), h =>
          have hx := (q_p_ex b n lt hlt _ _ _ _ _ _ _ _ _ e (by decide) ⟨by omega, by omega⟩).1
          refine h9 0 _ j _ q_z _ k _ L lp tp _ e B3 hS2 (by decide) (by omega) ⟨fun e2 he2 => (by cases he2), fun j' c' w' hj I2 a2 f3 A2 => ?_⟩
          cases hj
          have f4 := x_fr_trans f2 f3
          exact ⟨_, rfl, m_case hlt h (q_MB_fr hB f4) A2 (q_FA_fr hF f4) ((f4 179 13 rfl).trans h13) (hx.2 (by decide)) (by omega) (q_PG_tr hQ f4)⟩
      refine ⟨⟨by omega, by omega⟩, fun q3 => cse (Or.inl q3), fun q3 => ⟨fun q4 => ?_, fun q4 => cse (Or.inr q4)⟩⟩
      rw [if_neg (by omega)] at h
      match e : q_p b n f 3 0 j cs q_z, h with
      | none, h => cases h
      | some (.inl e'), h =>
        cases h
        have he := q_p_er _ _ _ _ _ _ _ _ _ e mi
        refine h3 0 _ j _ q_z _ k _ L lp tp _ e B3 hS2 (by decide) (by omega) ⟨fun e2 he2 z I2 hz f3 h11 => ?_, fun j c w hj => (by cases hj)⟩
        cases he2
        refine ⟨z, rfl, ?_⟩
        dsimp only
        rw [h11]
        exact ⟨⟨by omega, by omega⟩, fun _ => hQ.1 _ rfl _ (x_fr_mono (x_fr_trans f2 f3) rfl) h11, fun q => by omega⟩
      | some (.inr (j2, c2, w2)), h =>
        have hx := (q_p_ex b n lt hlt _ _ _ _ _ _ _ _ _ e (by decide) ⟨by omega, by omega⟩).1
        refine h3 0 _ j _ q_z _ k _ L lp tp _ e B3 hS2 (by decide) (by omega) ⟨fun e2 he2 => (by cases he2), fun j' c' w' hj' I2 a2 f3 A2 => ?_⟩
        cases hj'
        have f4 := x_fr_trans f2 f3
        have B4 := q_MB_fr hB f4
        obtain ⟨n0, nA, nV, ni, t1, t2, -⟩ := q_ML B4 A2
        have hS4 := q_MA_st A2
        have f5 := x_fr_trans f4 (q_fM10 I2 (j2 : Int))
        have h' : (if q_cs (q_tk b n j2) = -1 then some (.inr (j2, c2 ++ [20], q_one, w2)) else q_bc (q_p b n f 6 0 j2 c2 w2) fun j3 c3 v3 => q_bc (q_p b n f 8 0 j3 c3 v3) fun j4 c4 v4 => q_bc (q_p b n f 10 0 j4 c4 v4) (q_case b n f)) = some rc := h
        refine ⟨_, rfl, ?_⟩
        dsimp only
        rw [A2.2.2.2.1, nA, nV]
        have sgn : ¬ q_cs (q_tk b n j2) = -1 → x_X g k 207 [x_r 179, x_i 1, x_i (w2 lt)] (x_u I2 179 10 (j2 : Int), L, lp, tp) (fun rv w8 => ∃ z7, rv = [x_i z7] ∧ x_X g k 197 [x_r 179, x_i 63] w8 (fun rv w11 => ∃ z10, rv = [x_i z10] ∧ (x_rg z10) ∧ ((¬ z10 = 0 → x_X g k 202 [x_r 179] w11 (fun rv w15 => ∃ z14, rv = [x_i z14] ∧ q_tlP 121 z7 z14 Q w15)) ∧ (z10 = 0 → Q [] w11)))) := by
          intro q5
          rw [if_neg q5, ← q_cB_bc] at h'
          match e2 : q_cB b n f j2 c2 w2, h' with
          | none, h' => cases h'
          | some (.inl e'), h' =>
            cases h'
            have he := q_cB_er e2 ni
            refine m_condB hlt e2 (q_MB_fr hB f5) hS4 hx.1 (by omega) ⟨fun e3 he3 z I3 hz f6 h11 => ?_, fun j c w hj => (by cases hj)⟩
            cases he3
            exact ⟨z, rfl, x_le (show 3 ≤ k by omega) (s_takesK (k := 0) h11 (by omega) ⟨0, rfl, by decide, fun q => absurd rfl q, fun _ => hQ.1 _ rfl _ (x_fr_mono (x_fr_trans f5 f6) rfl) h11⟩)⟩
          | some (.inr (j3, c3, w3)), h' =>
            have hb := q_cB_bo hlt e2 hx.1
            refine m_condB hlt e2 (q_MB_fr hB f5) hS4 hx.1 (by omega) ⟨fun e3 he3 => (by cases he3), fun j' c' w' hj I3 a3 f6 A3 => ?_⟩
            cases hj
            have f7 := x_fr_trans f5 f6
            exact ⟨_, rfl, m_case hlt h' (q_MB_fr hB f7) A3 (q_FA_fr hF f7) ((f7 179 13 rfl).trans h13) hb (by omega) (q_PG_tr hQ f7)⟩
        refine ⟨by decide, fun q => absurd rfl q, fun _ => ⟨n0, ⟨by omega, by omega⟩, fun q5 => sgn (by rw [q5]; decide), fun q5 => ⟨fun q6 => sgn (by rw [q6]; decide), fun q6 => ⟨fun q7 => ?_, fun q7 => sgn (by rw [q7]; decide)⟩⟩⟩⟩
        rw [if_pos (by unfold q_cs; rw [if_neg q5, if_neg q6, if_neg q7])] at h'
        cases h'
        have F5 := q_FA_fr hF f5
        have tl := m_tail (lt := lt) (L := L) (lp := lp) (tp := tp) (Q := Q) (q_PG_tr hQ f5) hS4 F5 ((f5 179 13 rfl).trans h13) (Or.inr rfl)
        obtain ⟨-, -, tl2⟩ := tl
        obtain ⟨u1, u2, u3⟩ := tl2 hS4.2.2.2.1
        refine ⟨u1, u2, fun q8 => ?_⟩
        obtain ⟨u4, u5, u6⟩ := u3 q8
        refine ⟨u4, u5, fun q9 => ?_⟩
        obtain ⟨-, u7, -⟩ := u6 q9
        exact u7 (by show ¬ (1 : Int) = 0; decide)
    · rw [if_neg q2] at h
      cases h
      exact ⟨0, rfl, by decide, fun z => absurd rfl z, fun _ => hQ.1 _ rfl _ (x_fr_mono (x_fr_trans (q_fM10 _ _) f1) rfl) e1⟩
  · rw [if_neg (fun z => q ((q_ix100 _).mpr z))] at h
    cases h
    exact x_le (show 1 ≤ k by omega) (s_failsE (k := 0) hM.2.2.2.1 ⟨0, rfl, hQ.1 _ rfl _ (x_fr_mono (x_fr_trans (q_fM10 _ _) (q_fM11 _ _)) rfl) (x_u_same _ _ _ _)⟩)
theorem q_fG_hi {I I' : Nat → Nat → Int} (h : x_fr q_fG I I') (a k : Nat) (ha : 180 ≤ a) : I' a k = I a k := by
  refine h a k ?_
  cases e : x_mem q_fG a k with
  | false => rfl
  | true =>
    obtain ⟨t, h1, h2, -⟩ := (x_mem_iff _ a k).mp e
    simp at h1
    rcases h1 with rfl | rfl | rfl <;> simp at h2 <;> omega
theorem q_MB_frG {I I' : Nat → Nat → Int} {tp : Nat} {b : Nat → Int} {n : Nat} {lt : Nat → Int} (h : q_MB I tp b n lt) (hf : x_fr q_fG I I') : q_MB I' tp b n lt := q_MB_eq h (hf 179 8 rfl) (hf 179 9 rfl) (fun a k ha => q_fG_hi hf a k ha)
theorem q_clause_er {b : Nat → Int} {n f i : Nat} {cs : List Int} {e : Nat} (h : q_clause b n f i cs = some (.inl e)) (hi : i ≤ n) : e ≤ n := by
  have cas : ∀ {j : Nat} {c : List Int} {v : q_LV}, q_case b n f j c v = some (.inl e) → j ≤ n → e ≤ n := by
    intro j c v h hj
    unfold q_case at h
    by_cases k : q_tk b n j = 63
    · rw [if_pos k] at h
      obtain ⟨a1, a2, a3⟩ := q_s1 (b := b) (n := n) (i := j) (by omega)
      rcases q_bc_er h with e1 | ⟨j1, c1, w1, e1, e2⟩
      · exact (q_p_er _ _ _ _ _ _ _ _ _ e1 a3).2
      · cases e2
    · rw [if_neg k] at h; cases h; exact hj
  unfold q_clause at h
  by_cases k1 : q_tk b n i = 121
  · rw [if_pos k1] at h
    obtain ⟨a1, a2, a3⟩ := q_s1 (b := b) (n := n) (i := i) (by omega)
    by_cases k2 : q_tk b n (q_s b n (i + 1)) = 58
    · rw [if_pos k2] at h
      obtain ⟨b1, b2, b3⟩ := q_s1 (b := b) (n := n) (i := q_s b n (i + 1)) (by omega)
      unfold q_cb at h
      by_cases k3 : q_tk b n (q_s b n (q_s b n (i + 1) + 1)) = 33 ∨ q_tk b n (q_s b n (q_s b n (i + 1) + 1)) = 40
      · rw [if_pos k3] at h
        rcases q_bc_er h with e1 | ⟨j1, c1, w1, e1, e2⟩
        · exact (q_p_er _ _ _ _ _ _ _ _ _ e1 b3).2
        · exact cas e2 (q_p_pk _ _ _ _ _ _ _ _ _ _ _ e1 b3).2.1
      · rw [if_neg k3] at h
        rcases q_bc_er h with e1 | ⟨j1, c1, w1, e1, e2⟩
        · exact (q_p_er _ _ _ _ _ _ _ _ _ e1 b3).2
        · have p2 := (q_p_pk _ _ _ _ _ _ _ _ _ _ _ e1 b3).2.1
          by_cases k4 : q_cs (q_tk b n j1) = -1
          · rw [if_pos k4] at e2; cases e2
          · rw [if_neg k4, ← q_cB_bc] at e2
            rcases q_bc_er e2 with e3 | ⟨j2, c2, w2, e3, e4⟩
            · exact q_cB_er e3 p2
            · exact cas e4 (q_cB_pk e3 p2).2.1
    · rw [if_neg k2] at h; cases h; exact a3
  · rw [if_neg k1] at h; cases h; exact hi
theorem m_go_L {g : x_G} {b : Nat → Int} {n : Nat} {lt : Nat → Int} {f : Nat} (hlt : ∀ j, j < 6 → q_m6 (lt j)) {L : Nat → Nat → Int} {lp tp : Nat} {Q : x_Q} {k : Nat} (hk : 88 ≤ k) : ∀ (m i a : Nat) (cs : List Int) (av : q_AV) (r : Nat ⊕ (List Int × q_AV)) (I : Nat → Nat → Int), q_lw b n f m i cs av = some r → q_MB I tp b n lt → q_MA I b n a i 0 → q_FA I (av lt) → I 179 13 = 121 → (∀ e, r = .inl e → e ≤ n → ∀ I', x_fr q_fG I I' → I' 179 11 = (e : Int) → Q [] (I', L, lp, tp)) → (∀ C a', r = .inr (C, a') → ∀ I', x_fr q_fG I I' → I' 179 11 = -1 → q_FA I' (a' lt) → Q [] (I', L, lp, tp)) → x_X g k 208 [x_r 179] (I, L, lp, tp) (fun rv w2 => rv = [] ∧ x_S g (k + 2) 210 Q 19 [x_r 179, x_n, x_n, x_n] [] w2)
  | 0, i, a, cs, av, r, I, h, _, _, _, _, _, _ => by cases h
  | m + 1, i, a, cs, av, r, I, h, hB, hM, hF, h13, q1, q2 => by
    rw [q_lw_s] at h
    obtain ⟨l0, lA, lV, li, r1, r2, -⟩ := q_ML hB hM
    have hn := hB.2.2.2.1
    match e : q_clause b n f i cs, h with
    | none, h => cases h
    | some (.inl e'), h =>
      cases h
      have he := q_clause_er e li
      refine m_clause hlt e hB hM hF h13 hk ⟨fun e2 he2 I' f' h11 => ?_, fun j c v w hj => (by cases hj)⟩
      cases he2
      refine ⟨rfl, v_goThrough_L19 ?_⟩
      rw [h11]
      exact ⟨⟨by omega, by omega⟩, fun _ => q1 _ rfl he _ f' h11, fun q => by omega⟩
    | some (.inr (j, c, v, w)), h =>
      dsimp only at h
      obtain ⟨p1, p2, -⟩ := q_clause_ok e li
      refine m_clause hlt e hB hM hF h13 hk ⟨fun e2 he2 => (by cases he2), fun j' c' v' w' hj I' a' f' A' F' => ?_⟩
      cases hj
      have B' := q_MB_frG hB f'
      obtain ⟨m0, mA, mV, mi, s1, s2, -⟩ := q_ML B' A'
      refine ⟨rfl, v_goThrough_L19 ?_⟩
      rw [A'.2.2.2.1, mA, mV, x_u_u]
      refine ⟨by decide, fun q => absurd rfl q, fun _ => ⟨m0, ⟨by omega, by omega⟩, fun q => ⟨fun q3 => ?_, fun q3 => ?_⟩, fun q => ?_⟩⟩
      · have hnj : n ≤ j := by
          rcases Nat.lt_or_ge j n with z | z
          · have := hB.2.2.2.2.2.2.2.1 j z
            have e2 : q_tk b n j = b j := if_pos z
            omega
          · exact z
        rw [if_pos hnj] at h
        cases h
        refine q2 _ _ rfl _ (x_fr_trans f' (x_fr_mono (q_fM10 _ _) rfl)) A'.2.2.2.1 ?_
        exact q_FA_fr F' (q_fM10 _ _)
      · have hnj : j < n := q_tk_lt (b := b) (by omega)
        rw [if_neg (by omega), if_neg q] at h
        cases h
        exact x_le (show 1 ≤ k by omega) (s_failsE (k := 0) A'.2.2.2.1 ⟨0, rfl, q1 _ rfl (by omega) _ (x_fr_trans f' (x_fr_mono (x_fr_trans (q_fM10 _ _) (q_fM11 _ _)) rfl)) (x_u_same _ _ _ _)⟩)
      · have hnj : j < n := q_tk_lt (b := b) (by omega)
        rw [if_neg (by omega), if_pos q] at h
        have ff : x_fr q_fG I' (x_u I' 179 10 ((j + 1 : Nat) : Int)) := x_fr_mono (q_fM10 _ _) rfl
        exact m_go_L hlt hk m _ (j + 1) _ _ r _ h (q_MB_frG B' ff) (q_MA_at (c := j + 1) A' hnj) (q_FA_fr F' (q_fM10 _ _)) ((f' 179 13 rfl).trans h13) (fun e he he2 I2 f2 h11 => q1 e he he2 I2 (x_fr_trans (x_fr_trans f' ff) f2) h11) (fun C a' he I2 f2 h11 hF2 => q2 C a' he I2 (x_fr_trans (x_fr_trans f' ff) f2) h11 hF2)
abbrev q_fH : List (Nat × Nat × Nat) := [(179, 8, 15), (179, 17, 18)]
/-- goThrough over a text in cell ta, from beg on -/
theorem m_goThrough {g : x_G} {b : Nat → Int} {n beg : Nat} {lt : Nat → Int} (hlt : ∀ j, j < 6 → q_m6 (lt j)) {I L : Nat → Nat → Int} {lp tp ta : Nat} {Q : x_Q} {k : Nat} (hk : 90 ≤ k) {r : Nat ⊕ (List Int × q_AV)} (h : q_rl b n = some r) (hta : ta = 180 ∨ ta = 181) (hn : n ≤ 240) (hbe : (beg : Int) + (n : Int) ≤ if ta = 180 then 240 else 960) (hb : ∀ j, j < n → q_by I ta (beg + j) % 256 = b j) (hy : ∀ j, j < n → -128 ≤ q_by I ta (beg + j) ∧ q_by I ta (beg + j) ≤ 127) (hb2 : ∀ j, j < n → 1 ≤ b j ∧ b j ≤ 255) (hl : I 183 109 = lt 0 ∧ I 183 104 = lt 1 ∧ I 183 102 = lt 2 ∧ I 183 100 = lt 3 ∧ I 183 107 = lt 4 ∧ I 183 110 = lt 5) (hs : q_str I) (q1 : ∀ e, r = .inl e → e ≤ n → ∀ I', x_fr q_fH I I' → I' 179 11 = (e : Int) → Q [] (I', L, lp, ta)) (q2 : ∀ C a', r = .inr (C, a') → ∀ I', x_fr q_fH I I' → I' 179 11 = -1 → I' 179 14 = (a' lt).getD 0 → Q [] (I', L, lp, ta)) : x_X g k 210 [x_r 179, x_r ta, x_i (beg : Int), x_i (n : Int)] (I, L, lp, tp) Q := by
  obtain ⟨k, rfl⟩ : ∃ k', k = k' + 2 := ⟨k - 2, by omega⟩
  have f0 : x_fr q_fH I (x_u (x_u (x_u (x_u (x_u (x_u (x_u (x_u I 179 8 (beg : Int)) 179 9 (n : Int)) 179 10 0) 179 11 (-1)) 179 13 121) 179 12 0) 179 17 0) 179 14 0) := x_fr_u (x_fr_u (x_fr_u (x_fr_u (x_fr_u (x_fr_u (x_fr_u (x_fr_u (x_fr_refl _ _) rfl) rfl) rfl) rfl) rfl) rfl) rfl) rfl
  refine v_goThrough (m_go_L hlt (by omega) 241 _ 0 [] _ r _ h ⟨hta, Int.natCast_nonneg _, rfl, hn, hbe, fun j hj => ?_, fun j hj => ?_, hb2, hl, hs⟩ ⟨rfl, Nat.zero_le _, rfl, rfl, rfl⟩ ⟨rfl, rfl⟩ rfl (fun e he he2 I' f' h11 => q1 e he he2 I' (x_fr_trans f0 (x_fr_mono f' rfl)) h11) (fun C a' he I' f' h11 hF => q2 C a' he I' (x_fr_trans f0 (x_fr_mono f' rfl)) h11 ?_))
  · exact hb j hj
  · exact hy j hj
  · match e : a' lt, hF with
    | none, hF => exact hF.2
    | some x, hF => exact hF.2
