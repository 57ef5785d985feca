/-! A law worked out: a pure machine, and the class's own -/
def q_cl6 (z : Int) : Int := max (-1000000) (min z 1000000)
def q_jn (s l r : Int) : Int :=
  if s = 10 then q_cl6 (l + r) else if s = 11 then q_cl6 (l - r) else if s = 12 then q_cl6 (l * r) else if s = 13 then (if r = 0 then 0 else Int.tdiv l r)
  else if s = 14 then (if l = r then 1 else 0) else if s = 15 then (if l < r then 1 else 0) else if s = 16 then (if r < l then 1 else 0)
  else if s = 17 then (if l = 1 ∧ r = 1 then 1 else 0) else if s = 18 then (if l = 1 ∨ r = 1 then 1 else 0) else 0
abbrev q_m6 (z : Int) : Prop := -1000000 ≤ z ∧ z ≤ 1000000
theorem q_cl6_rg (z : Int) : q_m6 (q_cl6 z) := by unfold q_cl6; constructor <;> omega
theorem q_mul_rg {l r : Int} (hl : q_m6 l) (hr : q_m6 r) : -1000000000000 ≤ l * r ∧ l * r ≤ 1000000000000 := by
  have h1 : (l * r).natAbs = l.natAbs * r.natAbs := Int.natAbs_mul l r
  have h2 : l.natAbs * r.natAbs ≤ 1000000 * 1000000 := Nat.mul_le_mul (by omega) (by omega)
  omega
theorem q_tdiv_rg {l r : Int} (hl : q_m6 l) : q_m6 (Int.tdiv l r) := by
  have h2 := Int.natAbs_tdiv_le_natAbs l r
  constructor <;> omega
/-- truth values, where a sign joins such -/
def q_tv (s l r : Int) : Prop := (s = 17 ∨ s = 18) → (l = 0 ∨ l = 1) ∧ (r = 0 ∨ r = 1)
theorem q_jn_rg {s l r : Int} (hl : q_m6 l) (hr : q_m6 r) : q_m6 (q_jn s l r) := by
  have b1 : q_m6 1 := ⟨by decide, by decide⟩
  have b0 : q_m6 0 := ⟨by decide, by decide⟩
  unfold q_jn
  repeat' split
  all_goals first | exact q_cl6_rg _ | exact b0 | exact b1 | exact q_tdiv_rg hl
theorem s_joined {g : x_G} {k : Nat} {Q : x_Q} {w : x_W} {s l r : Int} (hs : x_rg s) (hl : q_m6 l) (hr : q_m6 r) (ht : q_tv s l r) (hq : Q [x_i (q_jn s l r)] w) : x_X g (k + 2) 26 [x_i s, x_i l, x_i r] w Q := by
  have hm := q_mul_rg hl hr
  have rl : x_rg l := ⟨by omega, by omega⟩
  have rr : x_rg r := ⟨by omega, by omega⟩
  refine v_joined ⟨hs, ?_, ?_, ?_, ?_, ?_, ?_, ?_, ?_, ?_, ?_⟩
  · rintro rfl; exact ⟨⟨by omega, by omega⟩, hq⟩
  · rintro rfl; exact ⟨⟨by omega, by omega⟩, hq⟩
  · rintro rfl
    refine ⟨rl, rr, ⟨by omega, by omega⟩, ⟨by omega, by omega⟩, ?_⟩
    rw [Int.min_comm]
    exact hq
  · rintro rfl
    refine ⟨rr, fun q => ⟨rl, q, ?_⟩, fun q => ?_⟩
    · have e : q_jn 13 l r = Int.tdiv l r := if_neg q
      rw [e] at hq; exact hq
    · have e : q_jn 13 l r = 0 := if_pos q
      rw [e] at hq; exact hq
  · rintro rfl
    refine ⟨rl, rr, fun q => ?_, fun q => ?_⟩
    · have e : q_jn 14 l r = 0 := if_neg q
      rw [e] at hq; exact hq
    · have e : q_jn 14 l r = 1 := if_pos q
      rw [e] at hq; exact hq
  · rintro rfl
    refine ⟨rl, rr, fun q => ?_, fun q => ?_⟩
    · have e : q_jn 15 l r = 0 := if_neg (show ¬ l < r by omega)
      rw [e] at hq; exact hq
    · have e : q_jn 15 l r = 1 := if_pos q
      rw [e] at hq; exact hq
  · rintro rfl
    refine ⟨rl, rr, fun q => ?_, fun q => ?_⟩
    · have e : q_jn 16 l r = 0 := if_neg (show ¬ r < l by omega)
      rw [e] at hq; exact hq
    · have e : q_jn 16 l r = 1 := if_pos q
      rw [e] at hq; exact hq
  · rintro rfl
    rcases ht (Or.inl rfl) with ⟨rfl | rfl, rfl | rfl⟩ <;> exact hq
  · rintro rfl
    rcases ht (Or.inr rfl) with ⟨rfl | rfl, rfl | rfl⟩ <;> exact hq
  · rintro ⟨h0, h1, h2, h3, h4, h5, h6, h7, h8⟩
    have e : q_jn s l r = 0 := by
      unfold q_jn
      rw [if_neg h0, if_neg h1, if_neg h2, if_neg h3, if_neg h4, if_neg h5, if_neg h6, if_neg h7, if_neg h8]
    rw [e] at hq; exact hq
/-- the pure machine: signs c up to n, letters lt; none: something that no law does -/
def q_ex (c : Nat → Int) (n : Nat) (lt : Nat → Int) : Nat → Nat → List Int → Option Int
  | 0, _, _ => none
  | f + 1, i, st => if n ≤ i then some 0
    else if c i = 20 then st.head?
    else if 100000 ≤ c i then (match st with
      | v :: r => if v = 0 then q_ex c n lt f (max i (c i - 100001).toNat + 1) r else q_ex c n lt f (i + 1) r
      | [] => none)
    else if 100 ≤ c i then (if st.length < 40 then q_ex c n lt f (i + 1) ((c i - 100) :: st) else none)
    else if c i < 6 then (if st.length < 40 then q_ex c n lt f (i + 1) (lt (c i).toNat :: st) else none)
    else if c i = 19 then (match st with
      | v :: r => q_ex c n lt f (i + 1) ((if v = 0 then 1 else 0) :: r)
      | [] => none)
    else (match st with
      | r :: l :: st' => if (c i = 17 ∨ c i = 18) ∧ ¬ ((l = 0 ∨ l = 1) ∧ (r = 0 ∨ r = 1)) then none else q_ex c n lt f (i + 1) (q_jn (c i) l r :: st')
      | _ => none)
theorem q_ex_s (c : Nat → Int) (n : Nat) (lt : Nat → Int) (f i : Nat) (st : List Int) : q_ex c n lt (f + 1) i st = if n ≤ i then some 0
    else if c i = 20 then st.head?
    else if 100000 ≤ c i then (match st with
      | v :: r => if v = 0 then q_ex c n lt f (max i (c i - 100001).toNat + 1) r else q_ex c n lt f (i + 1) r
      | [] => none)
    else if 100 ≤ c i then (if st.length < 40 then q_ex c n lt f (i + 1) ((c i - 100) :: st) else none)
    else if c i < 6 then (if st.length < 40 then q_ex c n lt f (i + 1) (lt (c i).toNat :: st) else none)
    else if c i = 19 then (match st with
      | v :: r => q_ex c n lt f (i + 1) ((if v = 0 then 1 else 0) :: r)
      | [] => none)
    else (match st with
      | r :: l :: st' => if (c i = 17 ∨ c i = 18) ∧ ¬ ((l = 0 ∨ l = 1) ∧ (r = 0 ∨ r = 1)) then none else q_ex c n lt f (i + 1) (q_jn (c i) l r :: st')
      | _ => none) := by rw [q_ex.eq_def]
def q_ok6 (st : List Int) : Prop := ∀ v ∈ st, q_m6 v
def q_Sk (I : Nat → Nat → Int) (A : Nat) (st : List Int) : Prop := I A 3 = (st.length : Int) ∧ st.length ≤ 40 ∧ (∀ j, j < st.length → I (A + 2) j = st.getD (st.length - 1 - j) 0) ∧ q_ok6 st
theorem q_Sk_push {I : Nat → Nat → Int} {A : Nat} {st : List Int} {v : Int} (h : q_Sk I A st) (hv : q_m6 v) (hl : st.length < 40) : q_Sk (x_u (x_u I (A + 2) (I A 3).toNat v) A 3 (I A 3 + 1)) A (v :: st) := by
  obtain ⟨h1, h2, h3, h4⟩ := h
  have e : (I A 3).toNat = st.length := by rw [h1]; rfl
  refine ⟨?_, ?_, fun j hj => ?_, fun u hu => ?_⟩
  · rw [x_u_same, h1, List.length_cons]; rfl
  · rw [List.length_cons]; exact hl
  · rw [x_u_ne _ _ (by omega), x_u_eq, e, List.length_cons]
    rw [List.length_cons] at hj
    by_cases q : j = st.length
    · rw [if_pos ⟨rfl, q⟩, show st.length + 1 - 1 - j = 0 by omega]; rfl
    · rw [if_neg (fun z => q z.2), h3 j (by omega), show st.length + 1 - 1 - j = (st.length - 1 - j) + 1 by omega]; rfl
  · rcases List.mem_cons.mp hu with rfl | hu
    · exact hv
    · exact h4 u hu
theorem q_Sk_pop {I : Nat → Nat → Int} {A : Nat} {st : List Int} {v : Int} (h : q_Sk I A (v :: st)) : q_Sk (x_u I A 3 (I A 3 - 1)) A st ∧ I (A + 2) (I A 3 - 1).toNat = v := by
  obtain ⟨h1, h2, h3, h4⟩ := h
  rw [List.length_cons] at h1 h2 h3
  have e : (I A 3 - 1).toNat = st.length := by rw [h1]; omega
  refine ⟨⟨?_, by omega, fun j hj => ?_, fun u hu => h4 u (List.mem_cons_of_mem _ hu)⟩, ?_⟩
  · rw [x_u_same, h1]; omega
  · rw [x_u_ne _ _ (by omega), h3 j (by omega), show st.length + 1 - 1 - j = (st.length - 1 - j) + 1 by omega]; rfl
  · rw [e, h3 st.length (by omega), show st.length + 1 - 1 - st.length = 0 by omega]; rfl
theorem q_Sk_eq {I I' : Nat → Nat → Int} {A : Nat} {st : List Int} (h : q_Sk I A st) (h3 : I' A 3 = I A 3) (h4 : ∀ j, I' (A + 2) j = I (A + 2) j) : q_Sk I' A st := ⟨h3.trans h.1, h.2.1, fun j hj => (h4 j).trans (h.2.2.1 j hj), h.2.2.2⟩
theorem s_push167 {g : x_G} {k : Nat} {Q : x_Q} {I L : Nat → Nat → Int} {lp tp : Nat} {v : Int} {st : List Int} (hs : q_Sk I 167 st) (hv : q_m6 v) (hl : st.length < 40) (hq : ∀ I', x_fr [(167, 3, 4), (169, 0, 40)] I I' → q_Sk I' 167 (v :: st) → Q [] (I', L, lp, tp)) : x_X g (k + 1) 27 [x_r 167, x_i v] (I, L, lp, tp) Q := by
  have e := hs.1
  refine v_push167 ⟨⟨by omega, by omega⟩, fun q => by omega, fun q => ⟨⟨by omega, by omega⟩, hq _ ?_ (q_Sk_push hs hv hl)⟩⟩
  exact x_fr_u (x_fr_u (x_fr_refl _ _) (x_memI (169, 0, 40) (by simp) rfl (by simp) (by simp; omega))) rfl
theorem s_pop167 {g : x_G} {k : Nat} {Q : x_Q} {I L : Nat → Nat → Int} {lp tp : Nat} {v : Int} {st : List Int} (hs : q_Sk I 167 (v :: st)) (hq : ∀ I', x_fr [(167, 3, 4), (169, 0, 40)] I I' → q_Sk I' 167 st → Q [x_i v] (I', L, lp, tp)) : x_X g (k + 1) 28 [x_r 167] (I, L, lp, tp) Q := by
  have e := hs.1
  have e2 := hs.2.1
  rw [List.length_cons] at e e2
  obtain ⟨h1, h2⟩ := q_Sk_pop hs
  refine v_pop167 ⟨⟨by omega, by omega⟩, fun q => ⟨⟨by omega, by omega⟩, ?_⟩, fun q => by omega⟩
  rw [h2]
  exact hq _ (x_fr_u (x_fr_refl _ _) rfl) h1
theorem s_worth167_L {g : x_G} {k : Nat} {Q : x_Q} {L : Nat → Nat → Int} {lp tp n : Nat} {c lt : Nat → Int} {I0 : Nat → Nat → Int} (hn : n ≤ 240) (hc : ∀ i, i < n → 0 ≤ c i ∧ c i ≤ 200000) (hlt : ∀ j, j < 6 → q_m6 (lt j)) (ec : ∀ i, i < n → I0 168 i = c i) (en : I0 167 2 = (n : Int)) (el : ∀ j, j < 6 → I0 155 j = lt j) : ∀ (f : Nat) (i : Nat) (st : List Int) (v : Int) (I : Nat → Nat → Int), i ≤ 400000 → q_ex c n lt f i st = some v → x_fr [(167, 3, 4), (169, 0, 40)] I0 I → q_Sk I 167 st → (∀ I', x_fr [(167, 3, 4), (169, 0, 40)] I0 I' → q_m6 v → Q [x_i v] (I', L, lp, tp)) → x_S g (k + 3) 25 Q 5 [x_r 167, x_r 155, x_i (i : Int), x_n, x_n, x_n] [] (I, L, lp, tp)
  | 0, i, st, v, I, _, h, _, _, _ => by cases h
  | f + 1, i, st, v, I, hi, h, hf, hs, hq => by
    have e2 : I 167 2 = (n : Int) := (hf 167 2 rfl).trans en
    refine v_worth167_L5 (k := k + 2) ⟨⟨by omega, by omega⟩, by rw [e2]; exact ⟨by omega, by omega⟩, fun q => ?_, fun q => ?_⟩
    · rw [e2] at q
      rw [q_ex_s, if_pos (by omega)] at h
      cases h
      exact hq I hf ⟨by decide, by decide⟩
    rw [e2] at q
    have hin : i < n := by omega
    have ei : I 168 (i : Int).toNat = c i := (hf 168 i rfl).trans (ec i hin)
    have hci := hc i hin
    rw [q_ex_s, if_neg (by omega)] at h
    rw [ei]
    refine ⟨⟨by omega, by omega⟩, ⟨by omega, by omega⟩, fun q1 => ⟨fun q2 => ⟨fun q3 => ⟨fun q4 => by omega, fun q4 => ⟨fun q5 => ⟨fun q6 => ?_, fun q6 => ?_⟩, fun q5 => ⟨⟨q4, q5⟩, ?_⟩⟩⟩, fun q3 => ?_⟩, fun q2 => ?_⟩, fun q1 => ?_⟩
    · rw [if_neg q1, if_neg (by omega), if_neg (by omega), if_neg (by omega), if_neg q6] at h
      split at h
      · rename_i r l st'
        split at h
        · cases h
        · rename_i htv
          have hr : q_m6 r := hs.2.2.2 r List.mem_cons_self
          have hl : q_m6 l := hs.2.2.2 l (List.mem_cons_of_mem _ List.mem_cons_self)
          have hlen := hs.2.1
          rw [List.length_cons, List.length_cons] at hlen
          refine s_pop167 hs fun I1 f1 s1 => ⟨_, rfl, s_pop167 s1 fun I2 f2 s2 => ⟨_, rfl, s_joined ⟨by omega, by omega⟩ hl hr (fun q => ?_) ⟨_, rfl, s_push167 s2 (q_jn_rg hl hr) (by omega) fun I3 f3 s3 => ⟨rfl, ?_⟩⟩⟩⟩
          · by_cases z : (l = 0 ∨ l = 1) ∧ (r = 0 ∨ r = 1)
            · exact z
            · exact absurd ⟨q, z⟩ htv
          · exact s_worth167_L hn hc hlt ec en el f (i + 1) _ v I3 (by omega) h (x_fr_trans (x_fr_trans (x_fr_trans hf f1) f2) f3) s3 hq
      · cases h
    · rw [if_neg q1, if_neg (by omega), if_neg (by omega), if_neg (by omega), if_pos q6] at h
      split at h
      · rename_i u r
        have hu : q_m6 u := hs.2.2.2 u List.mem_cons_self
        have hlen := hs.2.1
        rw [List.length_cons] at hlen
        refine s_pop167 hs fun I1 f1 s1 => ⟨_, rfl, ⟨by omega, by omega⟩, fun z => ?_, fun z => ?_⟩
        · rw [if_neg z] at h
          exact s_push167 s1 ⟨by decide, by decide⟩ (by omega) fun I2 f2 s2 => ⟨rfl, s_worth167_L hn hc hlt ec en el f (i + 1) _ v I2 (by omega) h (x_fr_trans (x_fr_trans hf f1) f2) s2 hq⟩
        · rw [if_pos z] at h
          exact s_push167 s1 ⟨by decide, by decide⟩ (by omega) fun I2 f2 s2 => ⟨rfl, s_worth167_L hn hc hlt ec en el f (i + 1) _ v I2 (by omega) h (x_fr_trans (x_fr_trans hf f1) f2) s2 hq⟩
      · cases h
    · rw [if_neg q1, if_neg (by omega), if_neg (by omega), if_pos q5] at h
      split at h
      · rename_i hlen
        have hj : (c i).toNat < 6 := by omega
        have e5 : I 155 (c i).toNat = lt (c i).toNat := (hf 155 _ rfl).trans (el _ hj)
        rw [e5]
        exact s_push167 hs (hlt _ hj) hlen fun I2 f2 s2 => ⟨rfl, s_worth167_L hn hc hlt ec en el f (i + 1) _ v I2 (by omega) h (x_fr_trans hf f2) s2 hq⟩
      · cases h
    · rw [if_neg q1, if_neg (by omega), if_pos q3] at h
      split at h
      · rename_i hlen
        exact s_push167 hs ⟨by omega, by omega⟩ hlen fun I2 f2 s2 => ⟨rfl, s_worth167_L hn hc hlt ec en el f (i + 1) _ v I2 (by omega) h (x_fr_trans hf f2) s2 hq⟩
      · cases h
    · rw [if_neg q1, if_pos q2] at h
      split at h
      · rename_i u r
        have hu : q_m6 u := hs.2.2.2 u List.mem_cons_self
        refine s_pop167 hs fun I1 f1 s1 => ⟨_, rfl, ⟨by omega, by omega⟩, fun z => ⟨⟨by omega, by omega⟩, ?_⟩, fun z => ?_⟩
        · rw [if_pos z] at h
          have e9 : max (i : Int) (c i - 100000 - 1) + 1 = ((max i (c i - 100001).toNat + 1 : Nat) : Int) := by omega
          rw [e9]
          exact s_worth167_L hn hc hlt ec en el f _ _ v I1 (by omega) h (x_fr_trans hf f1) s1 hq
        · rw [if_neg z] at h
          exact s_worth167_L hn hc hlt ec en el f (i + 1) _ v I1 (by omega) h (x_fr_trans hf f1) s1 hq
      · cases h
    · rw [if_pos q1] at h
      cases st with
      | nil => cases h
      | cons u r =>
        have hu : q_m6 u := hs.2.2.2 u List.mem_cons_self
        cases h
        exact s_pop167 hs fun I1 f1 s1 => ⟨_, rfl, hq I1 (x_fr_trans hf f1) hu⟩
theorem s_worth167 {g : x_G} {k : Nat} {Q : x_Q} {I L : Nat → Nat → Int} {lp tp n f : Nat} {c lt : Nat → Int} {v : Int} (hn : n ≤ 240) (hc : ∀ i, i < n → 0 ≤ c i ∧ c i ≤ 200000) (hlt : ∀ j, j < 6 → q_m6 (lt j)) (ec : ∀ i, i < n → I 168 i = c i) (en : I 167 2 = (n : Int)) (el : ∀ j, j < 6 → I 155 j = lt j) (h : q_ex c n lt f 0 [] = some v) (hq : ∀ I', x_fr [(167, 3, 4), (169, 0, 40)] I I' → q_m6 v → Q [x_i v] (I', L, lp, tp)) : x_X g (k + 3) 25 [x_r 167, x_r 155] (I, L, lp, tp) Q := by
  refine v_worth167 (k := k + 2) (s_worth167_L (I0 := x_u I 167 3 0) hn hc hlt ec en el f 0 [] v _ (by decide) h (x_fr_refl _ _) ⟨x_u_same _ _ _ _, by decide, fun j hj => absurd hj (by simp), fun u hu => by cases hu⟩ (fun I' hf hv => hq I' (x_fr_trans (x_fr_u (x_fr_refl _ _) rfl) hf) hv))
theorem s_push170 {g : x_G} {k : Nat} {Q : x_Q} {I L : Nat → Nat → Int} {lp tp : Nat} {v : Int} {st : List Int} (hs : q_Sk I 170 st) (hv : q_m6 v) (hl : st.length < 40) (hq : ∀ I', x_fr [(170, 3, 4), (172, 0, 40)] I I' → q_Sk I' 170 (v :: st) → Q [] (I', L, lp, tp)) : x_X g (k + 1) 27 [x_r 170, x_i v] (I, L, lp, tp) Q := by
  have e := hs.1
  refine v_push170 ⟨⟨by omega, by omega⟩, fun q => by omega, fun q => ⟨⟨by omega, by omega⟩, hq _ ?_ (q_Sk_push hs hv hl)⟩⟩
  exact x_fr_u (x_fr_u (x_fr_refl _ _) (x_memI (172, 0, 40) (by simp) rfl (by simp) (by simp; omega))) rfl
theorem s_pop170 {g : x_G} {k : Nat} {Q : x_Q} {I L : Nat → Nat → Int} {lp tp : Nat} {v : Int} {st : List Int} (hs : q_Sk I 170 (v :: st)) (hq : ∀ I', x_fr [(170, 3, 4), (172, 0, 40)] I I' → q_Sk I' 170 st → Q [x_i v] (I', L, lp, tp)) : x_X g (k + 1) 28 [x_r 170] (I, L, lp, tp) Q := by
  have e := hs.1
  have e2 := hs.2.1
  rw [List.length_cons] at e e2
  obtain ⟨h1, h2⟩ := q_Sk_pop hs
  refine v_pop170 ⟨⟨by omega, by omega⟩, fun q => ⟨⟨by omega, by omega⟩, ?_⟩, fun q => by omega⟩
  rw [h2]
  exact hq _ (x_fr_u (x_fr_refl _ _) rfl) h1
theorem s_worth170_L {g : x_G} {k : Nat} {Q : x_Q} {L : Nat → Nat → Int} {lp tp n : Nat} {c lt : Nat → Int} {I0 : Nat → Nat → Int} (hn : n ≤ 240) (hc : ∀ i, i < n → 0 ≤ c i ∧ c i ≤ 200000) (hlt : ∀ j, j < 6 → q_m6 (lt j)) (ec : ∀ i, i < n → I0 171 i = c i) (en : I0 170 2 = (n : Int)) (el : ∀ j, j < 6 → I0 155 j = lt j) : ∀ (f : Nat) (i : Nat) (st : List Int) (v : Int) (I : Nat → Nat → Int), i ≤ 400000 → q_ex c n lt f i st = some v → x_fr [(170, 3, 4), (172, 0, 40)] I0 I → q_Sk I 170 st → (∀ I', x_fr [(170, 3, 4), (172, 0, 40)] I0 I' → q_m6 v → Q [x_i v] (I', L, lp, tp)) → x_S g (k + 3) 25 Q 5 [x_r 170, x_r 155, x_i (i : Int), x_n, x_n, x_n] [] (I, L, lp, tp)
  | 0, i, st, v, I, _, h, _, _, _ => by cases h
  | f + 1, i, st, v, I, hi, h, hf, hs, hq => by
    have e2 : I 170 2 = (n : Int) := (hf 170 2 rfl).trans en
    refine v_worth170_L5 (k := k + 2) ⟨⟨by omega, by omega⟩, by rw [e2]; exact ⟨by omega, by omega⟩, fun q => ?_, fun q => ?_⟩
    · rw [e2] at q
      rw [q_ex_s, if_pos (by omega)] at h
      cases h
      exact hq I hf ⟨by decide, by decide⟩
    rw [e2] at q
    have hin : i < n := by omega
    have ei : I 171 (i : Int).toNat = c i := (hf 171 i rfl).trans (ec i hin)
    have hci := hc i hin
    rw [q_ex_s, if_neg (by omega)] at h
    rw [ei]
    refine ⟨⟨by omega, by omega⟩, ⟨by omega, by omega⟩, fun q1 => ⟨fun q2 => ⟨fun q3 => ⟨fun q4 => by omega, fun q4 => ⟨fun q5 => ⟨fun q6 => ?_, fun q6 => ?_⟩, fun q5 => ⟨⟨q4, q5⟩, ?_⟩⟩⟩, fun q3 => ?_⟩, fun q2 => ?_⟩, fun q1 => ?_⟩
    · rw [if_neg q1, if_neg (by omega), if_neg (by omega), if_neg (by omega), if_neg q6] at h
      split at h
      · rename_i r l st'
        split at h
        · cases h
        · rename_i htv
          have hr : q_m6 r := hs.2.2.2 r List.mem_cons_self
          have hl : q_m6 l := hs.2.2.2 l (List.mem_cons_of_mem _ List.mem_cons_self)
          have hlen := hs.2.1
          rw [List.length_cons, List.length_cons] at hlen
          refine s_pop170 hs fun I1 f1 s1 => ⟨_, rfl, s_pop170 s1 fun I2 f2 s2 => ⟨_, rfl, s_joined ⟨by omega, by omega⟩ hl hr (fun q => ?_) ⟨_, rfl, s_push170 s2 (q_jn_rg hl hr) (by omega) fun I3 f3 s3 => ⟨rfl, ?_⟩⟩⟩⟩
          · by_cases z : (l = 0 ∨ l = 1) ∧ (r = 0 ∨ r = 1)
            · exact z
            · exact absurd ⟨q, z⟩ htv
          · exact s_worth170_L hn hc hlt ec en el f (i + 1) _ v I3 (by omega) h (x_fr_trans (x_fr_trans (x_fr_trans hf f1) f2) f3) s3 hq
      · cases h
    · rw [if_neg q1, if_neg (by omega), if_neg (by omega), if_neg (by omega), if_pos q6] at h
      split at h
      · rename_i u r
        have hu : q_m6 u := hs.2.2.2 u List.mem_cons_self
        have hlen := hs.2.1
        rw [List.length_cons] at hlen
        refine s_pop170 hs fun I1 f1 s1 => ⟨_, rfl, ⟨by omega, by omega⟩, fun z => ?_, fun z => ?_⟩
        · rw [if_neg z] at h
          exact s_push170 s1 ⟨by decide, by decide⟩ (by omega) fun I2 f2 s2 => ⟨rfl, s_worth170_L hn hc hlt ec en el f (i + 1) _ v I2 (by omega) h (x_fr_trans (x_fr_trans hf f1) f2) s2 hq⟩
        · rw [if_pos z] at h
          exact s_push170 s1 ⟨by decide, by decide⟩ (by omega) fun I2 f2 s2 => ⟨rfl, s_worth170_L hn hc hlt ec en el f (i + 1) _ v I2 (by omega) h (x_fr_trans (x_fr_trans hf f1) f2) s2 hq⟩
      · cases h
    · rw [if_neg q1, if_neg (by omega), if_neg (by omega), if_pos q5] at h
      split at h
      · rename_i hlen
        have hj : (c i).toNat < 6 := by omega
        have e5 : I 155 (c i).toNat = lt (c i).toNat := (hf 155 _ rfl).trans (el _ hj)
        rw [e5]
        exact s_push170 hs (hlt _ hj) hlen fun I2 f2 s2 => ⟨rfl, s_worth170_L hn hc hlt ec en el f (i + 1) _ v I2 (by omega) h (x_fr_trans hf f2) s2 hq⟩
      · cases h
    · rw [if_neg q1, if_neg (by omega), if_pos q3] at h
      split at h
      · rename_i hlen
        exact s_push170 hs ⟨by omega, by omega⟩ hlen fun I2 f2 s2 => ⟨rfl, s_worth170_L hn hc hlt ec en el f (i + 1) _ v I2 (by omega) h (x_fr_trans hf f2) s2 hq⟩
      · cases h
    · rw [if_neg q1, if_pos q2] at h
      split at h
      · rename_i u r
        have hu : q_m6 u := hs.2.2.2 u List.mem_cons_self
        refine s_pop170 hs fun I1 f1 s1 => ⟨_, rfl, ⟨by omega, by omega⟩, fun z => ⟨⟨by omega, by omega⟩, ?_⟩, fun z => ?_⟩
        · rw [if_pos z] at h
          have e9 : max (i : Int) (c i - 100000 - 1) + 1 = ((max i (c i - 100001).toNat + 1 : Nat) : Int) := by omega
          rw [e9]
          exact s_worth170_L hn hc hlt ec en el f _ _ v I1 (by omega) h (x_fr_trans hf f1) s1 hq
        · rw [if_neg z] at h
          exact s_worth170_L hn hc hlt ec en el f (i + 1) _ v I1 (by omega) h (x_fr_trans hf f1) s1 hq
      · cases h
    · rw [if_pos q1] at h
      cases st with
      | nil => cases h
      | cons u r =>
        have hu : q_m6 u := hs.2.2.2 u List.mem_cons_self
        cases h
        exact s_pop170 hs fun I1 f1 s1 => ⟨_, rfl, hq I1 (x_fr_trans hf f1) hu⟩
theorem s_worth170 {g : x_G} {k : Nat} {Q : x_Q} {I L : Nat → Nat → Int} {lp tp n f : Nat} {c lt : Nat → Int} {v : Int} (hn : n ≤ 240) (hc : ∀ i, i < n → 0 ≤ c i ∧ c i ≤ 200000) (hlt : ∀ j, j < 6 → q_m6 (lt j)) (ec : ∀ i, i < n → I 171 i = c i) (en : I 170 2 = (n : Int)) (el : ∀ j, j < 6 → I 155 j = lt j) (h : q_ex c n lt f 0 [] = some v) (hq : ∀ I', x_fr [(170, 3, 4), (172, 0, 40)] I I' → q_m6 v → Q [x_i v] (I', L, lp, tp)) : x_X g (k + 3) 25 [x_r 170, x_r 155] (I, L, lp, tp) Q := by
  refine v_worth170 (k := k + 2) (s_worth170_L (I0 := x_u I 170 3 0) hn hc hlt ec en el f 0 [] v _ (by decide) h (x_fr_refl _ _) ⟨x_u_same _ _ _ _, by decide, fun j hj => absurd hj (by simp), fun u hu => by cases hu⟩ (fun I' hf hv => hq I' (x_fr_trans (x_fr_u (x_fr_refl _ _) rfl) hf) hv))
theorem s_push173 {g : x_G} {k : Nat} {Q : x_Q} {I L : Nat → Nat → Int} {lp tp : Nat} {v : Int} {st : List Int} (hs : q_Sk I 173 st) (hv : q_m6 v) (hl : st.length < 40) (hq : ∀ I', x_fr [(173, 3, 4), (175, 0, 40)] I I' → q_Sk I' 173 (v :: st) → Q [] (I', L, lp, tp)) : x_X g (k + 1) 27 [x_r 173, x_i v] (I, L, lp, tp) Q := by
  have e := hs.1
  refine v_push173 ⟨⟨by omega, by omega⟩, fun q => by omega, fun q => ⟨⟨by omega, by omega⟩, hq _ ?_ (q_Sk_push hs hv hl)⟩⟩
  exact x_fr_u (x_fr_u (x_fr_refl _ _) (x_memI (175, 0, 40) (by simp) rfl (by simp) (by simp; omega))) rfl
theorem s_pop173 {g : x_G} {k : Nat} {Q : x_Q} {I L : Nat → Nat → Int} {lp tp : Nat} {v : Int} {st : List Int} (hs : q_Sk I 173 (v :: st)) (hq : ∀ I', x_fr [(173, 3, 4), (175, 0, 40)] I I' → q_Sk I' 173 st → Q [x_i v] (I', L, lp, tp)) : x_X g (k + 1) 28 [x_r 173] (I, L, lp, tp) Q := by
  have e := hs.1
  have e2 := hs.2.1
  rw [List.length_cons] at e e2
  obtain ⟨h1, h2⟩ := q_Sk_pop hs
  refine v_pop173 ⟨⟨by omega, by omega⟩, fun q => ⟨⟨by omega, by omega⟩, ?_⟩, fun q => by omega⟩
  rw [h2]
  exact hq _ (x_fr_u (x_fr_refl _ _) rfl) h1
theorem s_worth173_L {g : x_G} {k : Nat} {Q : x_Q} {L : Nat → Nat → Int} {lp tp n : Nat} {c lt : Nat → Int} {I0 : Nat → Nat → Int} (hn : n ≤ 240) (hc : ∀ i, i < n → 0 ≤ c i ∧ c i ≤ 200000) (hlt : ∀ j, j < 6 → q_m6 (lt j)) (ec : ∀ i, i < n → I0 174 i = c i) (en : I0 173 2 = (n : Int)) (el : ∀ j, j < 6 → I0 155 j = lt j) : ∀ (f : Nat) (i : Nat) (st : List Int) (v : Int) (I : Nat → Nat → Int), i ≤ 400000 → q_ex c n lt f i st = some v → x_fr [(173, 3, 4), (175, 0, 40)] I0 I → q_Sk I 173 st → (∀ I', x_fr [(173, 3, 4), (175, 0, 40)] I0 I' → q_m6 v → Q [x_i v] (I', L, lp, tp)) → x_S g (k + 3) 25 Q 5 [x_r 173, x_r 155, x_i (i : Int), x_n, x_n, x_n] [] (I, L, lp, tp)
  | 0, i, st, v, I, _, h, _, _, _ => by cases h
  | f + 1, i, st, v, I, hi, h, hf, hs, hq => by
    have e2 : I 173 2 = (n : Int) := (hf 173 2 rfl).trans en
    refine v_worth173_L5 (k := k + 2) ⟨⟨by omega, by omega⟩, by rw [e2]; exact ⟨by omega, by omega⟩, fun q => ?_, fun q => ?_⟩
    · rw [e2] at q
      rw [q_ex_s, if_pos (by omega)] at h
      cases h
      exact hq I hf ⟨by decide, by decide⟩
    rw [e2] at q
    have hin : i < n := by omega
    have ei : I 174 (i : Int).toNat = c i := (hf 174 i rfl).trans (ec i hin)
    have hci := hc i hin
    rw [q_ex_s, if_neg (by omega)] at h
    rw [ei]
    refine ⟨⟨by omega, by omega⟩, ⟨by omega, by omega⟩, fun q1 => ⟨fun q2 => ⟨fun q3 => ⟨fun q4 => by omega, fun q4 => ⟨fun q5 => ⟨fun q6 => ?_, fun q6 => ?_⟩, fun q5 => ⟨⟨q4, q5⟩, ?_⟩⟩⟩, fun q3 => ?_⟩, fun q2 => ?_⟩, fun q1 => ?_⟩
    · rw [if_neg q1, if_neg (by omega), if_neg (by omega), if_neg (by omega), if_neg q6] at h
      split at h
      · rename_i r l st'
        split at h
        · cases h
        · rename_i htv
          have hr : q_m6 r := hs.2.2.2 r List.mem_cons_self
          have hl : q_m6 l := hs.2.2.2 l (List.mem_cons_of_mem _ List.mem_cons_self)
          have hlen := hs.2.1
          rw [List.length_cons, List.length_cons] at hlen
          refine s_pop173 hs fun I1 f1 s1 => ⟨_, rfl, s_pop173 s1 fun I2 f2 s2 => ⟨_, rfl, s_joined ⟨by omega, by omega⟩ hl hr (fun q => ?_) ⟨_, rfl, s_push173 s2 (q_jn_rg hl hr) (by omega) fun I3 f3 s3 => ⟨rfl, ?_⟩⟩⟩⟩
          · by_cases z : (l = 0 ∨ l = 1) ∧ (r = 0 ∨ r = 1)
            · exact z
            · exact absurd ⟨q, z⟩ htv
          · exact s_worth173_L hn hc hlt ec en el f (i + 1) _ v I3 (by omega) h (x_fr_trans (x_fr_trans (x_fr_trans hf f1) f2) f3) s3 hq
      · cases h
    · rw [if_neg q1, if_neg (by omega), if_neg (by omega), if_neg (by omega), if_pos q6] at h
      split at h
      · rename_i u r
        have hu : q_m6 u := hs.2.2.2 u List.mem_cons_self
        have hlen := hs.2.1
        rw [List.length_cons] at hlen
        refine s_pop173 hs fun I1 f1 s1 => ⟨_, rfl, ⟨by omega, by omega⟩, fun z => ?_, fun z => ?_⟩
        · rw [if_neg z] at h
          exact s_push173 s1 ⟨by decide, by decide⟩ (by omega) fun I2 f2 s2 => ⟨rfl, s_worth173_L hn hc hlt ec en el f (i + 1) _ v I2 (by omega) h (x_fr_trans (x_fr_trans hf f1) f2) s2 hq⟩
        · rw [if_pos z] at h
          exact s_push173 s1 ⟨by decide, by decide⟩ (by omega) fun I2 f2 s2 => ⟨rfl, s_worth173_L hn hc hlt ec en el f (i + 1) _ v I2 (by omega) h (x_fr_trans (x_fr_trans hf f1) f2) s2 hq⟩
      · cases h
    · rw [if_neg q1, if_neg (by omega), if_neg (by omega), if_pos q5] at h
      split at h
      · rename_i hlen
        have hj : (c i).toNat < 6 := by omega
        have e5 : I 155 (c i).toNat = lt (c i).toNat := (hf 155 _ rfl).trans (el _ hj)
        rw [e5]
        exact s_push173 hs (hlt _ hj) hlen fun I2 f2 s2 => ⟨rfl, s_worth173_L hn hc hlt ec en el f (i + 1) _ v I2 (by omega) h (x_fr_trans hf f2) s2 hq⟩
      · cases h
    · rw [if_neg q1, if_neg (by omega), if_pos q3] at h
      split at h
      · rename_i hlen
        exact s_push173 hs ⟨by omega, by omega⟩ hlen fun I2 f2 s2 => ⟨rfl, s_worth173_L hn hc hlt ec en el f (i + 1) _ v I2 (by omega) h (x_fr_trans hf f2) s2 hq⟩
      · cases h
    · rw [if_neg q1, if_pos q2] at h
      split at h
      · rename_i u r
        have hu : q_m6 u := hs.2.2.2 u List.mem_cons_self
        refine s_pop173 hs fun I1 f1 s1 => ⟨_, rfl, ⟨by omega, by omega⟩, fun z => ⟨⟨by omega, by omega⟩, ?_⟩, fun z => ?_⟩
        · rw [if_pos z] at h
          have e9 : max (i : Int) (c i - 100000 - 1) + 1 = ((max i (c i - 100001).toNat + 1 : Nat) : Int) := by omega
          rw [e9]
          exact s_worth173_L hn hc hlt ec en el f _ _ v I1 (by omega) h (x_fr_trans hf f1) s1 hq
        · rw [if_neg z] at h
          exact s_worth173_L hn hc hlt ec en el f (i + 1) _ v I1 (by omega) h (x_fr_trans hf f1) s1 hq
      · cases h
    · rw [if_pos q1] at h
      cases st with
      | nil => cases h
      | cons u r =>
        have hu : q_m6 u := hs.2.2.2 u List.mem_cons_self
        cases h
        exact s_pop173 hs fun I1 f1 s1 => ⟨_, rfl, hq I1 (x_fr_trans hf f1) hu⟩
theorem s_worth173 {g : x_G} {k : Nat} {Q : x_Q} {I L : Nat → Nat → Int} {lp tp n f : Nat} {c lt : Nat → Int} {v : Int} (hn : n ≤ 240) (hc : ∀ i, i < n → 0 ≤ c i ∧ c i ≤ 200000) (hlt : ∀ j, j < 6 → q_m6 (lt j)) (ec : ∀ i, i < n → I 174 i = c i) (en : I 173 2 = (n : Int)) (el : ∀ j, j < 6 → I 155 j = lt j) (h : q_ex c n lt f 0 [] = some v) (hq : ∀ I', x_fr [(173, 3, 4), (175, 0, 40)] I I' → q_m6 v → Q [x_i v] (I', L, lp, tp)) : x_X g (k + 3) 25 [x_r 173, x_r 155] (I, L, lp, tp) Q := by
  refine v_worth173 (k := k + 2) (s_worth173_L (I0 := x_u I 173 3 0) hn hc hlt ec en el f 0 [] v _ (by decide) h (x_fr_refl _ _) ⟨x_u_same _ _ _ _, by decide, fun j hj => absurd hj (by simp), fun u hu => by cases hu⟩ (fun I' hf hv => hq I' (x_fr_trans (x_fr_u (x_fr_refl _ _) rfl) hf) hv))
theorem s_push176 {g : x_G} {k : Nat} {Q : x_Q} {I L : Nat → Nat → Int} {lp tp : Nat} {v : Int} {st : List Int} (hs : q_Sk I 176 st) (hv : q_m6 v) (hl : st.length < 40) (hq : ∀ I', x_fr [(176, 3, 4), (178, 0, 40)] I I' → q_Sk I' 176 (v :: st) → Q [] (I', L, lp, tp)) : x_X g (k + 1) 27 [x_r 176, x_i v] (I, L, lp, tp) Q := by
  have e := hs.1
  refine v_push176 ⟨⟨by omega, by omega⟩, fun q => by omega, fun q => ⟨⟨by omega, by omega⟩, hq _ ?_ (q_Sk_push hs hv hl)⟩⟩
  exact x_fr_u (x_fr_u (x_fr_refl _ _) (x_memI (178, 0, 40) (by simp) rfl (by simp) (by simp; omega))) rfl
theorem s_pop176 {g : x_G} {k : Nat} {Q : x_Q} {I L : Nat → Nat → Int} {lp tp : Nat} {v : Int} {st : List Int} (hs : q_Sk I 176 (v :: st)) (hq : ∀ I', x_fr [(176, 3, 4), (178, 0, 40)] I I' → q_Sk I' 176 st → Q [x_i v] (I', L, lp, tp)) : x_X g (k + 1) 28 [x_r 176] (I, L, lp, tp) Q := by
  have e := hs.1
  have e2 := hs.2.1
  rw [List.length_cons] at e e2
  obtain ⟨h1, h2⟩ := q_Sk_pop hs
  refine v_pop176 ⟨⟨by omega, by omega⟩, fun q => ⟨⟨by omega, by omega⟩, ?_⟩, fun q => by omega⟩
  rw [h2]
  exact hq _ (x_fr_u (x_fr_refl _ _) rfl) h1
theorem s_worth176_L {g : x_G} {k : Nat} {Q : x_Q} {L : Nat → Nat → Int} {lp tp n : Nat} {c lt : Nat → Int} {I0 : Nat → Nat → Int} (hn : n ≤ 240) (hc : ∀ i, i < n → 0 ≤ c i ∧ c i ≤ 200000) (hlt : ∀ j, j < 6 → q_m6 (lt j)) (ec : ∀ i, i < n → I0 177 i = c i) (en : I0 176 2 = (n : Int)) (el : ∀ j, j < 6 → I0 155 j = lt j) : ∀ (f : Nat) (i : Nat) (st : List Int) (v : Int) (I : Nat → Nat → Int), i ≤ 400000 → q_ex c n lt f i st = some v → x_fr [(176, 3, 4), (178, 0, 40)] I0 I → q_Sk I 176 st → (∀ I', x_fr [(176, 3, 4), (178, 0, 40)] I0 I' → q_m6 v → Q [x_i v] (I', L, lp, tp)) → x_S g (k + 3) 25 Q 5 [x_r 176, x_r 155, x_i (i : Int), x_n, x_n, x_n] [] (I, L, lp, tp)
  | 0, i, st, v, I, _, h, _, _, _ => by cases h
  | f + 1, i, st, v, I, hi, h, hf, hs, hq => by
    have e2 : I 176 2 = (n : Int) := (hf 176 2 rfl).trans en
    refine v_worth176_L5 (k := k + 2) ⟨⟨by omega, by omega⟩, by rw [e2]; exact ⟨by omega, by omega⟩, fun q => ?_, fun q => ?_⟩
    · rw [e2] at q
      rw [q_ex_s, if_pos (by omega)] at h
      cases h
      exact hq I hf ⟨by decide, by decide⟩
    rw [e2] at q
    have hin : i < n := by omega
    have ei : I 177 (i : Int).toNat = c i := (hf 177 i rfl).trans (ec i hin)
    have hci := hc i hin
    rw [q_ex_s, if_neg (by omega)] at h
    rw [ei]
    refine ⟨⟨by omega, by omega⟩, ⟨by omega, by omega⟩, fun q1 => ⟨fun q2 => ⟨fun q3 => ⟨fun q4 => by omega, fun q4 => ⟨fun q5 => ⟨fun q6 => ?_, fun q6 => ?_⟩, fun q5 => ⟨⟨q4, q5⟩, ?_⟩⟩⟩, fun q3 => ?_⟩, fun q2 => ?_⟩, fun q1 => ?_⟩
    · rw [if_neg q1, if_neg (by omega), if_neg (by omega), if_neg (by omega), if_neg q6] at h
      split at h
      · rename_i r l st'
        split at h
        · cases h
        · rename_i htv
          have hr : q_m6 r := hs.2.2.2 r List.mem_cons_self
          have hl : q_m6 l := hs.2.2.2 l (List.mem_cons_of_mem _ List.mem_cons_self)
          have hlen := hs.2.1
          rw [List.length_cons, List.length_cons] at hlen
          refine s_pop176 hs fun I1 f1 s1 => ⟨_, rfl, s_pop176 s1 fun I2 f2 s2 => ⟨_, rfl, s_joined ⟨by omega, by omega⟩ hl hr (fun q => ?_) ⟨_, rfl, s_push176 s2 (q_jn_rg hl hr) (by omega) fun I3 f3 s3 => ⟨rfl, ?_⟩⟩⟩⟩
          · by_cases z : (l = 0 ∨ l = 1) ∧ (r = 0 ∨ r = 1)
            · exact z
            · exact absurd ⟨q, z⟩ htv
          · exact s_worth176_L hn hc hlt ec en el f (i + 1) _ v I3 (by omega) h (x_fr_trans (x_fr_trans (x_fr_trans hf f1) f2) f3) s3 hq
      · cases h
    · rw [if_neg q1, if_neg (by omega), if_neg (by omega), if_neg (by omega), if_pos q6] at h
      split at h
      · rename_i u r
        have hu : q_m6 u := hs.2.2.2 u List.mem_cons_self
        have hlen := hs.2.1
        rw [List.length_cons] at hlen
        refine s_pop176 hs fun I1 f1 s1 => ⟨_, rfl, ⟨by omega, by omega⟩, fun z => ?_, fun z => ?_⟩
        · rw [if_neg z] at h
          exact s_push176 s1 ⟨by decide, by decide⟩ (by omega) fun I2 f2 s2 => ⟨rfl, s_worth176_L hn hc hlt ec en el f (i + 1) _ v I2 (by omega) h (x_fr_trans (x_fr_trans hf f1) f2) s2 hq⟩
        · rw [if_pos z] at h
          exact s_push176 s1 ⟨by decide, by decide⟩ (by omega) fun I2 f2 s2 => ⟨rfl, s_worth176_L hn hc hlt ec en el f (i + 1) _ v I2 (by omega) h (x_fr_trans (x_fr_trans hf f1) f2) s2 hq⟩
      · cases h
    · rw [if_neg q1, if_neg (by omega), if_neg (by omega), if_pos q5] at h
      split at h
      · rename_i hlen
        have hj : (c i).toNat < 6 := by omega
        have e5 : I 155 (c i).toNat = lt (c i).toNat := (hf 155 _ rfl).trans (el _ hj)
        rw [e5]
        exact s_push176 hs (hlt _ hj) hlen fun I2 f2 s2 => ⟨rfl, s_worth176_L hn hc hlt ec en el f (i + 1) _ v I2 (by omega) h (x_fr_trans hf f2) s2 hq⟩
      · cases h
    · rw [if_neg q1, if_neg (by omega), if_pos q3] at h
      split at h
      · rename_i hlen
        exact s_push176 hs ⟨by omega, by omega⟩ hlen fun I2 f2 s2 => ⟨rfl, s_worth176_L hn hc hlt ec en el f (i + 1) _ v I2 (by omega) h (x_fr_trans hf f2) s2 hq⟩
      · cases h
    · rw [if_neg q1, if_pos q2] at h
      split at h
      · rename_i u r
        have hu : q_m6 u := hs.2.2.2 u List.mem_cons_self
        refine s_pop176 hs fun I1 f1 s1 => ⟨_, rfl, ⟨by omega, by omega⟩, fun z => ⟨⟨by omega, by omega⟩, ?_⟩, fun z => ?_⟩
        · rw [if_pos z] at h
          have e9 : max (i : Int) (c i - 100000 - 1) + 1 = ((max i (c i - 100001).toNat + 1 : Nat) : Int) := by omega
          rw [e9]
          exact s_worth176_L hn hc hlt ec en el f _ _ v I1 (by omega) h (x_fr_trans hf f1) s1 hq
        · rw [if_neg z] at h
          exact s_worth176_L hn hc hlt ec en el f (i + 1) _ v I1 (by omega) h (x_fr_trans hf f1) s1 hq
      · cases h
    · rw [if_pos q1] at h
      cases st with
      | nil => cases h
      | cons u r =>
        have hu : q_m6 u := hs.2.2.2 u List.mem_cons_self
        cases h
        exact s_pop176 hs fun I1 f1 s1 => ⟨_, rfl, hq I1 (x_fr_trans hf f1) hu⟩
theorem s_worth176 {g : x_G} {k : Nat} {Q : x_Q} {I L : Nat → Nat → Int} {lp tp n f : Nat} {c lt : Nat → Int} {v : Int} (hn : n ≤ 240) (hc : ∀ i, i < n → 0 ≤ c i ∧ c i ≤ 200000) (hlt : ∀ j, j < 6 → q_m6 (lt j)) (ec : ∀ i, i < n → I 177 i = c i) (en : I 176 2 = (n : Int)) (el : ∀ j, j < 6 → I 155 j = lt j) (h : q_ex c n lt f 0 [] = some v) (hq : ∀ I', x_fr [(176, 3, 4), (178, 0, 40)] I I' → q_m6 v → Q [x_i v] (I', L, lp, tp)) : x_X g (k + 3) 25 [x_r 176, x_r 155] (I, L, lp, tp) Q := by
  refine v_worth176 (k := k + 2) (s_worth176_L (I0 := x_u I 176 3 0) hn hc hlt ec en el f 0 [] v _ (by decide) h (x_fr_refl _ _) ⟨x_u_same _ _ _ _, by decide, fun j hj => absurd hj (by simp), fun u hu => by cases hu⟩ (fun I' hf hv => hq I' (x_fr_trans (x_fr_u (x_fr_refl _ _) rfl) hf) hv))
