/-! A law's code and its worth -/
theorem q_run_ans {cc : Nat → Int} {N : Nat} {lt : Nat → Int} {p : Nat} {st : List Int} {w : Int} (h : cc p = 20) (hp : p < N) : q_run cc N lt p (w :: st) w := ⟨1, by rw [q_ex_s, if_neg (by omega), if_pos h]; rfl⟩
theorem q_run_un {cc : Nat → Int} {N : Nat} {lt : Nat → Int} {p q : Nat} {st : List Int} {v x : Int} (h : cc p = 100000 + (q : Int)) (hp : p < N) (hq : p < q) (h0 : v = 0 → q_run cc N lt q st x) (h1 : ¬ v = 0 → q_run cc N lt (p + 1) st x) : q_run cc N lt p (v :: st) x := by
  by_cases hv : v = 0
  · obtain ⟨fu, hf⟩ := h0 hv
    refine ⟨fu + 1, ?_⟩
    rw [q_ex_s, if_neg (by omega), if_neg (by omega), if_pos (by omega)]
    show (if v = 0 then _ else _) = _
    rw [if_pos hv, show max p (cc p - 100001).toNat + 1 = q by omega]
    exact hf
  · obtain ⟨fu, hf⟩ := h1 hv
    refine ⟨fu + 1, ?_⟩
    rw [q_ex_s, if_neg (by omega), if_neg (by omega), if_pos (by omega)]
    show (if v = 0 then _ else _) = _
    rw [if_neg hv]
    exact hf
theorem q_cb_ok {b : Nat → Int} {n f j : Nat} {cs : List Int} {j' : Nat} {c' : List Int} {v w : q_LV} (h : q_cb b n f j cs = some (.inr (j', c', v, w))) (hj : j ≤ n) : j < j' ∧ j' ≤ n ∧ (∃ d, c' = cs ++ d) ∧ c'.length + j ≤ cs.length + j' + 1 ∧ ((∀ z ∈ cs, q_cr z) → cs.length ≤ 1000 → n ≤ 1000 → ∀ z ∈ c', q_cr z) ∧ ∀ lt, (∀ x, x < 6 → q_m6 (lt x)) → q_cx lt cs c' v w ∧ q_m6 (w lt) := by
  refine q_cb_inv h hj _ (fun d e1 hv hc' p1 p2 p3 => ?_) (fun j4 d1 hx p1 p2 p3 hcr e => ?_)
  · subst hv hc'
    refine ⟨p1, p2, ⟨d ++ [20], List.append_assoc _ _ _⟩, by simp only [List.length_append, List.length_singleton]; omega, fun hcs _ _ z hz => ?_, fun lt hlt => ?_⟩
    · rcases List.mem_append.mp hz with q | q
      · exact q_p_cr _ _ _ _ _ _ _ _ _ _ _ e1 hcs z q
      · rw [List.mem_singleton.mp q]; exact ⟨by decide, by decide⟩
    · obtain ⟨⟨o1, o2⟩, d', e, s0, hs, g⟩ := q_p_ex _ _ lt hlt _ _ _ _ _ _ _ _ _ e1 (by decide) ⟨by omega, by omega⟩
      have := List.append_cancel_left e
      subst this
      have hs0 : s0 = [] := by
        rcases hs with q | q
        · exact absurd q.1 (by unfold q_lpt; omega)
        · exact q.2
      subst hs0
      refine ⟨⟨d ++ [20], List.append_assoc _ _ _, fun cc N hcc hN => ⟨fun _ => ?_, fun q => absurd q (by show ¬ (1 : Int) = 0; decide)⟩⟩, o1⟩
      rw [List.length_append, List.length_singleton] at hN hcc
      refine q_seg_run (s0 := []) (st := []) g (fun x hx => by rw [hcc x (by omega), q_getD_l hx]) (by omega) (by decide) (q_run_ans ?_ (by omega))
      rw [hcc d.length (by omega)]
      exact q_getD_r (a := d) 0
  · obtain ⟨-, p4, p5, d, e2, rfl, p6⟩ := q_case_inv e p2
    have len : ∀ U : Int, ([U] ++ d ++ [20]).length = d.length + 2 := fun U => by simp
    refine ⟨by omega, p5, ⟨d1 ++ ([100000 + (((cs ++ d1 ++ [100000] ++ d).length : Int) + 1)] ++ d ++ [20]), List.append_assoc _ _ _⟩, by rw [List.length_append, List.length_append, len]; omega, fun hcs hl hn z hz => ?_, fun lt hlt => ?_⟩
    · have c1 := hcr hcs
      have c2 : ∀ z ∈ cs ++ d1 ++ [100000] ++ d, q_cr z := q_p_cr _ _ _ _ _ _ _ _ _ _ _ e2 (fun z hz => by
        rcases List.mem_append.mp hz with q | q
        · exact c1 z q
        · rw [List.mem_singleton.mp q]; exact ⟨by decide, by decide⟩)
      rcases List.mem_append.mp hz with q | q
      · exact c1 z q
      · rcases List.mem_append.mp q with q | q
        · rcases List.mem_append.mp q with q | q
          · rw [List.mem_singleton.mp q]
            simp only [List.length_append, List.length_singleton]
            constructor <;> omega
          · exact c2 z (List.mem_append.mpr (Or.inr q))
        · rw [List.mem_singleton.mp q]; exact ⟨by decide, by decide⟩
    · obtain ⟨hvb, g1⟩ := hx lt hlt
      obtain ⟨⟨o1, o2⟩, d', e3, s0, hs, g⟩ := q_p_ex _ _ lt hlt _ _ _ _ _ _ _ _ _ e2 (by decide) ⟨by omega, by omega⟩
      have := List.append_cancel_left e3
      subst this
      have hs0 : s0 = [] := by
        rcases hs with q | q
        · exact absurd q.1 (by unfold q_lpt; omega)
        · exact q.2
      subst hs0
      generalize hU : 100000 + (((cs ++ d1 ++ [100000] ++ d).length : Int) + 1) = U at ⊢
      have hU2 : U = 100000 + ((cs.length + (d1.length + (d.length + 2)) : Nat) : Int) := by
        rw [← hU]; simp only [List.length_append, List.length_singleton]; omega
      refine ⟨⟨d1 ++ ([U] ++ d ++ [20]), List.append_assoc _ _ _, fun cc N hcc hN => ?_⟩, o1⟩
      rw [List.length_append, len] at hcc hN
      have a1 : ∀ x, x < d1.length → cc (cs.length + x) = d1.getD x 0 := fun x hx => by rw [hcc x (by omega), q_getD_l hx]
      have a2 : cc (cs.length + d1.length) = U := by
        rw [hcc d1.length (by omega)]
        exact q_getD_r (a := d1) 0
      have a3 : ∀ x, x < d.length → cc (cs.length + d1.length + 1 + x) = d.getD x 0 := fun x hx => by
        rw [show cs.length + d1.length + 1 + x = cs.length + (d1.length + (1 + x)) by omega, hcc _ (by omega), q_getD_r]
        have := q_getD_r (a := [U]) (b := d ++ [20]) x
        rw [List.length_singleton, ← List.append_assoc] at this
        rw [this, q_getD_l hx]
      have a4 : cc (cs.length + d1.length + 1 + d.length) = 20 := by
        rw [show cs.length + d1.length + 1 + d.length = cs.length + (d1.length + (1 + d.length)) by omega, hcc _ (by omega), q_getD_r]
        have := q_getD_r (a := [U] ++ d) (b := [20]) 0
        rw [List.length_append, List.length_singleton] at this
        exact this
      rw [List.length_append, len]
      refine ⟨fun hv => ?_, fun hv x hr => ?_⟩
      · refine q_seg_run (s0 := []) (st := []) g1 a1 (by omega) (by decide) (q_run_un (a2.trans hU2) (by omega) (by omega) (fun q => absurd q hv) (fun _ => ?_))
        exact q_seg_run (s0 := []) (st := []) g a3 (by omega) (by decide) (q_run_ans a4 (by omega))
      · exact q_seg_run (s0 := []) (st := []) g1 a1 (by omega) (by decide) (q_run_un (a2.trans hU2) (by omega) (by omega) (fun _ => hr) (fun q => absurd hv q))
theorem q_clause_ok {b : Nat → Int} {n f i : Nat} {cs : List Int} {j' : Nat} {c' : List Int} {v w : q_LV} (h : q_clause b n f i cs = some (.inr (j', c', v, w))) (hi : i ≤ n) : i < j' ∧ j' ≤ n ∧ (∃ d, c' = cs ++ d) ∧ c'.length + i ≤ cs.length + j' ∧ ((∀ z ∈ cs, q_cr z) → cs.length ≤ 1000 → n ≤ 1000 → ∀ z ∈ c', q_cr z) ∧ ∀ lt, (∀ x, x < 6 → q_m6 (lt x)) → q_cx lt cs c' v w ∧ q_m6 (w lt) := by
  unfold q_clause at h
  by_cases k1 : q_tk b n i = 121
  · rw [if_pos k1] at h
    obtain ⟨a1, a2, a3⟩ := q_s1 (b := b) (n := n) (i := i) (by omega)
    by_cases k2 : q_tk b n (q_s b n (i + 1)) = 58
    · rw [if_pos k2] at h
      obtain ⟨b1, b2, b3⟩ := q_s1 (b := b) (n := n) (i := q_s b n (i + 1)) (by omega)
      obtain ⟨p1, p2, p3, p4, p5, p6⟩ := q_cb_ok h b3
      exact ⟨by omega, p2, p3, by omega, p5, p6⟩
    · rw [if_neg k2] at h; cases h
  · rw [if_neg k1] at h; cases h
theorem q_lw_s (b : Nat → Int) (n f m i : Nat) (cs : List Int) (a : q_AV) : q_lw b n f (m + 1) i cs a = match q_clause b n f i cs with
    | none => none
    | some (.inl e) => some (.inl e)
    | some (.inr x) => if n ≤ x.1 then some (.inr (x.2.1, q_ac a x.2.2.1 x.2.2.2)) else if q_tk b n x.1 = 59 then q_lw b n f m (q_s b n (x.1 + 1)) x.2.1 (q_ac a x.2.2.1 x.2.2.2) else some (.inl x.1) := by
  rw [q_lw.eq_def]
  rfl
theorem q_lw_ok (b : Nat → Int) (n f : Nat) (hn : n ≤ 1000) : ∀ (m i : Nat) (cs : List Int) (a : q_AV) (C : List Int) (a' : q_AV), q_lw b n f m i cs a = some (.inr (C, a')) → i ≤ n → (∀ z ∈ cs, q_cr z) → cs.length ≤ i → (∃ d, C = cs ++ d) ∧ C.length ≤ n ∧ (∀ z ∈ C, q_cr z) ∧ ∀ lt, (∀ x, x < 6 → q_m6 (lt x)) → (∀ x, a lt = some x → a' lt = some x) ∧ (a lt = none → (∀ x, a' lt = some x → q_m6 x) ∧ ∀ cc : Nat → Int, (∀ x, x < C.length → cc x = C.getD x 0) → q_run cc C.length lt cs.length [] ((a' lt).getD 0))
  | 0, i, cs, a, C, a', h, hi, hc, hl => by cases h
  | m + 1, i, cs, a, C, a', h, hi, hc, hl => by
    rw [q_lw_s] at h
    match e : q_clause b n f i cs, h with
    | none, h => cases h
    | some (.inl _), h => cases h
    | some (.inr (j, c, v, w)), h =>
      obtain ⟨p1, p2, ⟨d, rfl⟩, p4, p5, p6⟩ := q_clause_ok e hi
      have hcr := p5 hc (by omega) hn
      dsimp only at h
      have key : ∀ (lt : Nat → Int), (∀ x, x < 6 → q_m6 (lt x)) → (∀ x, a lt = some x → q_ac a v w lt = some x) ∧ (a lt = none → (v lt = 0 → q_ac a v w lt = none) ∧ (¬ v lt = 0 → q_ac a v w lt = some (w lt))) := by
        intro lt hlt
        unfold q_ac
        refine ⟨fun x hx => by rw [hx], fun h0 => ⟨fun hv => ?_, fun hv => ?_⟩⟩
        · rw [h0]; dsimp only; rw [if_pos hv]
        · rw [h0]; dsimp only; rw [if_neg hv]
      by_cases k1 : n ≤ j
      · rw [if_pos k1] at h
        cases h
        refine ⟨⟨d, rfl⟩, by omega, hcr, fun lt hlt => ?_⟩
        obtain ⟨k2, k3⟩ := key lt hlt
        refine ⟨k2, fun h0 => ?_⟩
        obtain ⟨k4, k5⟩ := k3 h0
        obtain ⟨⟨d', e', g⟩, hw⟩ := p6 lt hlt
        have := List.append_cancel_left e'
        subst this
        by_cases hv : v lt = 0
        · rw [k4 hv]
          refine ⟨fun x hx => by (cases hx), fun cc hcc => ?_⟩
          refine (g cc _ (fun x hx => by rw [hcc _ (by rw [List.length_append]; omega), q_getD_r]) (by rw [List.length_append]; omega)).2 hv _ ⟨1, ?_⟩
          rw [q_ex_s, if_pos (by rw [List.length_append]; omega)]
          rfl
        · rw [k5 hv]
          refine ⟨fun x hx => by cases hx; exact hw, fun cc hcc => ?_⟩
          exact (g cc _ (fun x hx => by rw [hcc _ (by rw [List.length_append]; omega), q_getD_r]) (by rw [List.length_append]; omega)).1 hv
      · rw [if_neg k1] at h
        by_cases k2 : q_tk b n j = 59
        · rw [if_pos k2] at h
          obtain ⟨s1, s2, s3⟩ := q_s1 (b := b) (n := n) (i := j) (by omega)
          obtain ⟨⟨d2, rfl⟩, r2, r3, r4⟩ := q_lw_ok b n f hn m _ _ _ _ _ h s3 hcr (by omega)
          refine ⟨⟨d ++ d2, List.append_assoc _ _ _⟩, r2, r3, fun lt hlt => ?_⟩
          obtain ⟨k2, k3⟩ := key lt hlt
          obtain ⟨r5, r6⟩ := r4 lt hlt
          refine ⟨fun x hx => r5 x (k2 x hx), fun h0 => ?_⟩
          obtain ⟨k4, k5⟩ := k3 h0
          obtain ⟨⟨d', e', g⟩, hw⟩ := p6 lt hlt
          have := List.append_cancel_left e'
          subst this
          by_cases hv : v lt = 0
          · obtain ⟨r7, r8⟩ := r6 (k4 hv)
            refine ⟨r7, fun cc hcc => ?_⟩
            have := r8 cc hcc
            rw [show (cs ++ d).length = cs.length + d.length from List.length_append] at this
            exact (g cc _ (fun x hx => by rw [hcc _ (by simp only [List.length_append]; omega), q_getD_l (by rw [List.length_append]; omega), q_getD_r]) (by simp only [List.length_append]; omega)).2 hv _ this
          · have r7 := r5 _ (k5 hv)
            rw [r7]
            refine ⟨fun x hx => by cases hx; exact hw, fun cc hcc => ?_⟩
            exact (g cc _ (fun x hx => by rw [hcc _ (by simp only [List.length_append]; omega), q_getD_l (by rw [List.length_append]; omega), q_getD_r]) (by simp only [List.length_append]; omega)).1 hv
        · rw [if_neg k2] at h; cases h
theorem q_case_tot {b : Nat → Int} {n f j : Nat} {c : List Int} {v : q_LV} (hf : 6 * n + 9 < f) (hj : j ≤ n) : q_case b n f j c v ≠ none := by
  unfold q_case
  by_cases k : q_tk b n j = 63
  · rw [if_pos k]
    obtain ⟨a1, a2, a3⟩ := q_s1 (b := b) (n := n) (i := j) (by omega)
    exact q_bc_tot (q_p_tot b n f 3 0 _ _ _ (by have : q_rk 3 = 2 := rfl; omega) a3 (by decide)) (fun _ _ _ _ q => by cases q)
  · rw [if_neg k]; intro q; cases q
theorem q_clause_tot {b : Nat → Int} {n f i : Nat} {cs : List Int} (hf : 6 * n + 9 < f) (hi : i ≤ n) : q_clause b n f i cs ≠ none := by
  unfold q_clause
  by_cases k1 : q_tk b n i = 121
  · rw [if_pos k1]
    obtain ⟨a1, a2, a3⟩ := q_s1 (b := b) (n := n) (i := i) (by omega)
    by_cases k2 : q_tk b n (q_s b n (i + 1)) = 58
    · rw [if_pos k2]
      obtain ⟨b1, b2, b3⟩ := q_s1 (b := b) (n := n) (i := q_s b n (i + 1)) (by omega)
      unfold q_cb
      by_cases k3 : q_tk b n (q_s b n (q_s b n (i + 1) + 1)) = 33 ∨ q_tk b n (q_s b n (q_s b n (i + 1) + 1)) = 40
      · rw [if_pos k3]
        exact q_bc_tot (q_p_tot b n f 9 0 _ _ _ (by have : q_rk 9 = 5 := rfl; omega) b3 (by decide)) (fun j c w e => q_case_tot hf (q_p_pk _ _ _ _ _ _ _ _ _ _ _ e b3).2.1)
      · rw [if_neg k3]
        refine q_bc_tot (q_p_tot b n f 3 0 _ _ _ (by have : q_rk 3 = 2 := rfl; omega) b3 (by decide)) (fun j c w e => ?_)
        have p2 := (q_p_pk _ _ _ _ _ _ _ _ _ _ _ e b3).2.1
        by_cases k4 : q_cs (q_tk b n j) = -1
        · rw [if_pos k4]; intro q; cases q
        · rw [if_neg k4]
          refine q_bc_tot (q_p_tot b n f 6 0 _ _ _ (by have : q_rk 6 = 0 := rfl; omega) p2 (by decide)) (fun j c w e => ?_)
          have p3 := (q_p_pk _ _ _ _ _ _ _ _ _ _ _ e p2).2.1
          refine q_bc_tot (q_p_tot b n f 8 0 _ _ _ (by have : q_rk 8 = 0 := rfl; omega) p3 (by decide)) (fun j c w e => ?_)
          have p4 := (q_p_pk _ _ _ _ _ _ _ _ _ _ _ e p3).2.1
          exact q_bc_tot (q_p_tot b n f 10 0 _ _ _ (by have : q_rk 10 = 0 := rfl; omega) p4 (by decide)) (fun j c w e => q_case_tot hf (q_p_pk _ _ _ _ _ _ _ _ _ _ _ e p4).2.1)
    · rw [if_neg k2]; intro q; cases q
  · rw [if_neg k1]; intro q; cases q
theorem q_lw_tot (b : Nat → Int) (n f : Nat) (hf : 6 * n + 9 < f) : ∀ (m i : Nat) (cs : List Int) (a : q_AV), n - i < m → i ≤ n → q_lw b n f m i cs a ≠ none
  | 0, i, cs, a, h, hi => by omega
  | m + 1, i, cs, a, h, hi => by
    rw [q_lw_s]
    match e : q_clause b n f i cs with
    | none => exact absurd e (q_clause_tot hf hi)
    | some (.inl _) => intro q; cases q
    | some (.inr (j, c, v, w)) =>
      obtain ⟨p1, p2, -⟩ := q_clause_ok e hi
      dsimp only
      by_cases k1 : n ≤ j
      · rw [if_pos k1]; intro q; cases q
      · rw [if_neg k1]
        by_cases k2 : q_tk b n j = 59
        · rw [if_pos k2]
          obtain ⟨s1, s2, s3⟩ := q_s1 (b := b) (n := n) (i := j) (by omega)
          exact q_lw_tot b n f hf m _ _ _ (by omega) s3
        · rw [if_neg k2]; intro q; cases q
/-- a text read as a law -/
def q_rl (b : Nat → Int) (n : Nat) : Option (Nat ⊕ (List Int × q_AV)) := q_lw b n 1500 241 (q_s b n 0) [] (fun _ => none)
theorem q_rl_tot (b : Nat → Int) {n : Nat} (hn : n ≤ 240) : q_rl b n ≠ none := q_lw_tot b n 1500 (by omega) 241 _ _ _ (by omega) (q_s_le (Nat.zero_le _))
theorem q_rl_ok {b : Nat → Int} {n : Nat} (hn : n ≤ 240) {C : List Int} {a : q_AV} (h : q_rl b n = some (.inr (C, a))) : C.length ≤ n ∧ (∀ z ∈ C, q_cr z) ∧ ∀ lt, (∀ x, x < 6 → q_m6 (lt x)) → q_m6 ((a lt).getD 0) ∧ ∀ cc : Nat → Int, (∀ x, x < C.length → cc x = C.getD x 0) → q_run cc C.length lt 0 [] ((a lt).getD 0) := by
  obtain ⟨-, p2, p3, p4⟩ := q_lw_ok b n 1500 (by omega) 241 _ [] _ C a h (q_s_le (Nat.zero_le _)) (fun z hz => by cases hz) (Nat.zero_le _)
  refine ⟨p2, p3, fun lt hlt => ?_⟩
  obtain ⟨-, q⟩ := p4 lt hlt
  obtain ⟨q1, q2⟩ := q rfl
  refine ⟨?_, q2⟩
  match e : a lt with
  | none => exact ⟨by decide, by decide⟩
  | some x => exact q1 x e
