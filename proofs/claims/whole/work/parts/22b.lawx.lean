/-! the law's own code in whole numbers: counts of cells and slots beside -/
def am_noal (i : Instr) : Bool := match i with
  | .new _ => false
  | .newarray _ => false
  | .anewarray _ => false
  | .multianewarray _ _ => false
  | .invokespecial _ => false
  | .invokestatic q => !Nat.beq (q / 2048) 0
  | _ => true
theorem am_shift {Cl : am_C} {bd : Nat × Nat} {Q : am_Q} {K : am_K} {i : Instr} {pc : Nat} {ls st : List Value} {w : am_W} {c s : Nat} (hi : am_noal i = true) (h : am_stp Cl bd (fun r w => Q r (am_zc w c s)) (fun pc ls st w => K pc ls st (am_zc w c s)) i pc ls st w) : am_stp Cl bd Q K i pc ls st (am_zc w c s) := by
  cases i
  case invokestatic q =>
    have e : Nat.beq (q / 2048) 0 = false := by
      cases e : Nat.beq (q / 2048) 0 with
      | false => rfl
      | true =>
        have hi : (!Nat.beq (q / 2048) 0) = true := hi
        rw [e] at hi
        cases hi
    unfold am_stp at h ⊢
    simp only [e, cond_false] at h ⊢
    exact h
  all_goals first
    | exact h
    | (exact absurd hi (by decide))
    | (cases hi)
/-- from a place of a method, where E holds: it comes to its end, with Q -/
abbrev am_E : Type := Program → Env → Room → State → MethodId → Array Value → List Frame → Method → Code → (State → Prop) → Prop
def am_SmE (E : am_E) (Γ : am_G) (l : Launch) (d mid : Nat) (Q : am_Q) (n : Nat) (ls st : List Value) (w : am_W) : Prop :=
  ∀ (p : Program) (e : Env) (R : Room) (s : State) (m : MethodId) (args : Array Value) (below : List Frame) (meth : Method) (c : Code) (Z : State → Prop), E p e R s m args below meth c Z → am_cx Γ l mid d Q p e R s m args below meth c Z → am_At Γ l mid p e R s m args below meth c Z n ls st w
theorem am_stepE {E : am_E} {Γ : am_G} {l : Launch} {d mid : Nat} {Q : am_Q} {n h : Nat} {ls st : List Value} {w : am_W} {i : Instr} (hk : am_ck mid n h i) (h0 : am_not0 i = true) (hs : am_stp (am_Clp Γ l d) (am_bd mid) Q (am_SmE E Γ l d mid Q) i n ls st w) : am_SmE E Γ l d mid Q n ls st w := by
  intro p e R s m args below meth c Z hE hc
  exact am_step hc hk h0 (fun n' ls' st' w' hq => hq p e R s m args below meth c Z hE hc) hs
def x_lL (n : Nat) (Q : x_Q) : am_Q := fun r w => ∃ r' w' c s, r = r'.map x_cV ∧ w = am_zc (x_cW n w') c s ∧ Q r' w'
def x_SE (E : am_E) (g : x_G) (mid k : Nat) (Q : x_Q) (c s : Nat) (pc : Nat) (ls st : List x_V) (w : x_W) : Prop := g.2.2 ≤ 3072 → ∀ d, k ≤ d → am_SmE E g.1 g.2.1 d mid (x_lL g.2.2 Q) pc (ls.map x_cV) (st.map x_cV) (am_zc (x_cW g.2.2 w) c s)
theorem am_in_sub {bad stop : List Nat} (h : bad.all (am_in stop) = true) : ∀ {n : Nat}, am_in stop n = false → am_in bad n = false := by
  intro n hn
  cases e : am_in bad n with
  | false => rfl
  | true =>
    exfalso
    have hm : ∀ (l : List Nat), am_in l n = true → n ∈ l := by
      intro l
      induction l with
      | nil => intro h; cases h
      | cons a l ih =>
        intro h
        simp only [am_in, Bool.or_eq_true] at h
        rcases h with h | h
        · rw [am_beq h]; exact List.mem_cons_self
        · exact List.mem_cons_of_mem _ (ih h)
    have := List.all_eq_true.mp h n (hm bad e)
    rw [hn] at this
    cases this
theorem x_blockE {E : am_E} {g : x_G} {mid k : Nat} {Q : x_Q} {c s : Nat} {cc : List Instr} (hcod : am_cod mid = cc) (bad stop : List Nat) (hbs : bad.all (am_in stop) = true) (hck : ∀ n, n < cc.length → am_in bad n = false → am_ck mid n ((am_ct mid).2.1.getD n 0) (am_fe cc n) ∧ am_not0 (am_fe cc n) = true) : ∀ (N : Nat) {pc : Nat} {ls st : List x_V} {w : x_W}, am_in bad pc = false → x_wp g.2.2 cc (x_X g k) Q stop (x_SE E g mid (k + 1) Q c s) N pc ls st w → x_SE E g mid (k + 1) Q c s pc ls st w := by
  intro N
  induction N with
  | zero => intro pc ls st w _ h; exact h
  | succ N ih =>
    intro pc ls st w hp h hg d hd
    have h : x_stp g.2.2 (x_X g k) Q (fun pc' ls' st' w' => bif am_in stop pc' then x_SE E g mid (k + 1) Q c s pc' ls' st' w' else x_wp g.2.2 cc (x_X g k) Q stop (x_SE E g mid (k + 1) Q c s) N pc' ls' st' w') (am_fe cc pc) pc ls st w := h
    rcases Nat.lt_or_ge pc cc.length with hn | hn
    · obtain ⟨hk, hno⟩ := hck pc hn hp
      refine am_stepE hk hno ?_
      have ha := x_sound (bd := am_bd mid) (Cl' := am_Clp g.1 g.2.1 d) (Q' := fun r w => x_lL g.2.2 Q r (am_zc w c s)) (K' := fun pc ls st w => am_SmE E g.1 g.2.1 d mid (x_lL g.2.2 Q) pc ls st (am_zc w c s)) hg (fun m as w q q' hc hq => by
        obtain ⟨d', rfl⟩ : ∃ d', d = d' + 1 := ⟨d - 1, by omega⟩
        refine am_Cl_mono (hc hg d' (by omega)) ?_
        rintro r w ⟨r', w', rfl, rfl, hr⟩
        exact hq _ _ hr) (fun pc' ls' st' w' hk => by
        cases e : am_in stop pc' with
        | true => rw [e, cond_true] at hk; exact hk hg d hd
        | false =>
          rw [e, cond_false] at hk
          exact ih (am_in_sub hbs e) hk hg d hd) (fun v w hv => ⟨v, w, c, s, rfl, rfl, hv⟩) h
      cases hn : am_noal (am_fe cc pc) with
      | true => exact am_shift hn ha
      | false =>
        exfalso
        generalize am_fe cc pc = i at hn h hno
        cases i
        case invokestatic q =>
          have e1 : am_noal (.invokestatic q) = am_not0 (.invokestatic q) := rfl
          rw [e1, hno] at hn
          cases hn
        all_goals first
          | (exact h.elim)
          | (cases hn)
    · rw [am_fe_out _ _ hn] at h
      exact h.elim
theorem x_forgetE {E : am_E} {g : x_G} {mid k : Nat} {Q : x_Q} {c s : Nat} {pc : Nat} {ls ls' st : List x_V} {w : x_W} (hf : x_fg ls' ls) (h : x_SE E g mid k Q c s pc ls' st w) : x_SE E g mid k Q c s pc ls st w := by
  intro hg d hd p e R s m args below meth c Z hE hc H locs lc hr hcn hS hl hlen
  refine h hg d hd p e R s m args below meth c Z hE hc H locs lc hr hcn hS ?_ ?_
  · refine ⟨by rw [hl.1, List.length_map, List.length_map, x_fg_len hf], hl.2.1, fun q hq => ?_⟩
    obtain ⟨h1, h2, h3⟩ := am_lvl_of hq
    rw [x_nth_am] at h2 h3
    rcases x_fg_nth hf q.1 with g1 | g1
    · rw [g1] at h2
      exact absurd rfl (h2 0)
    · rw [g1] at h2 h3
      have := am_lvl_mem (Γ := g.1) (ls := ls.map x_cV) (i := q.1) (x_nth_am ls q.1) h2
      rw [← h3] at this
      exact hl.2.2 q this
  · rw [List.length_map] at hlen ⊢
    rw [x_fg_len hf]
    exact hlen
/-- what the law's walk has beside -/
def am_EL (g : x_G) : am_E := fun _ _ _ s _ _ _ _ _ _ => am_ex g.1 g.2.1 s s.heap
/-- from a place of the law, with counts c, s -/
def x_SL (g : x_G) (k : Nat) (Q : x_Q) (c s : Nat) (pc : Nat) (ls st : List x_V) (w : x_W) : Prop := x_SE (am_EL g) g 286 k Q c s pc ls st w
theorem am_l0 : (List.range 1011).all (fun i => Nat.beq i 162 || am_not0 (am_fe k_L_law i)) = true := by decide +kernel
theorem am_lcod : am_cod 286 = k_L_law := rfl
theorem am_ln0 {n : Nat} (h : n ≠ 162) : am_not0 (am_fe (am_cod 286) n) = true := by
  rcases Nat.lt_or_ge n 1011 with hn | hn
  · have := List.all_eq_true.mp am_l0 n (List.mem_range.mpr hn)
    rw [Bool.or_eq_true] at this
    rcases this with g | g
    · exact absurd (am_beq g) h
    · rw [am_lcod]; exact g
  · rw [am_fe_out _ _ (by rw [am_llen]; exact hn)]; rfl
theorem am_lbad {n : Nat} (hn : n < k_L_law.length) (hb : am_in [162] n = false) : am_ck 286 n ((am_ct 286).2.1.getD n 0) (am_fe k_L_law n) ∧ am_not0 (am_fe k_L_law n) = true := by
  have h162 : n ≠ 162 := fun e => by rw [e] at hb; cases hb
  refine ⟨?_, ?_⟩
  · have := am_lck (n := n) hn
    exact this
  · have := am_ln0 h162
    rw [am_lcod] at this
    exact this
theorem x_blockL {g : x_G} {k : Nat} {Q : x_Q} {c s : Nat} (stop : List Nat) (hst : am_in stop 162 = true) (N : Nat) {pc : Nat} {ls st : List x_V} {w : x_W} (hp : pc ≠ 162) (h : x_wp g.2.2 k_L_law (x_X g k) Q stop (x_SL g (k + 1) Q c s) N pc ls st w) : x_SL g (k + 1) Q c s pc ls st w :=
  x_blockE (E := am_EL g) (mid := 286) am_lcod [162] stop (by show (am_in stop 162 && true) = true; rw [hst]; rfl) (fun n hn hb => am_lbad hn hb) N (by show (Nat.beq 162 pc || false) = false; rw [x_nbeq (fun e => hp e.symm)]; rfl) h
theorem x_forgetL {g : x_G} {k : Nat} {Q : x_Q} {c s : Nat} {pc : Nat} {ls ls' st : List x_V} {w : x_W} (hf : x_fg ls' ls) (h : x_SL g k Q c s pc ls' st w) : x_SL g k Q c s pc ls st w := x_forgetE (E := am_EL g) (mid := 286) hf h
