/-! the law's own code in whole numbers: counts of cells and slots beside -/
def am_noal (i : Instr) : Bool := match i with
  | .new _ => false
  | .newarray _ => false
  | .anewarray _ => false
  | .multianewarray _ _ => false
  | .invokespecial _ => false
  | .invokestatic q => !Nat.beq (q / 2048) 0
  | _ => true
theorem am_shift {Cl : am_C} {bd : Nat × Nat} {Q : am_Q} {K : am_K} {i : Instr} {pc : Nat} {ls st : List Value} {w : am_W} {c s : Nat} (hi : am_noal i = true) (h : am_stp Cl bd (fun r w => Q r (am_zc w c s)) (fun pc ls st w => K pc ls st (am_zc w c s)) i pc ls st w) : am_stp Cl bd Q K i pc ls st (am_zc w c s) := by
  cases i
  case invokestatic q =>
    have e : Nat.beq (q / 2048) 0 = false := by
      cases e : Nat.beq (q / 2048) 0 with
      | false => rfl
      | true =>
        have hi : (!Nat.beq (q / 2048) 0) = true := hi
        rw [e] at hi
        cases hi
    unfold am_stp at h ⊢
    simp only [e, cond_false] at h ⊢
    exact h
  all_goals first
    | exact h
    | (exact absurd hi (by decide))
    | (cases hi)
theorem am_lstep {Γ : am_G} {l : Launch} {d : Nat} {Q : am_Q} {n : Nat} {ls st : List Value} {w : am_W} (h0 : am_not0 (am_fe (am_cod 286) n) = true) (h : am_stp (am_Clp Γ l d) (am_bd 286) Q (am_Sm Γ l d 286 Q) (am_fe (am_cod 286) n) n ls st w) : am_Sm Γ l d 286 Q n ls st w := by
  intro p e R s m args below meth c Z hc
  rcases Nat.lt_or_ge n (am_cod 286).length with hn | hn
  · exact am_step hc (am_lck hn) h0 (fun n' ls' st' w' hq => hq p e R s m args below meth c Z hc) h
  · rw [am_fe_out _ _ hn] at h
    exact False.elim h
def x_lL (n : Nat) (Q : x_Q) : am_Q := fun r w => ∃ r' w' c s, r = r'.map x_cV ∧ w = am_zc (x_cW n w') c s ∧ Q r' w'
/-- from a place of the law, with counts c, s -/
def x_SL (g : x_G) (k : Nat) (Q : x_Q) (c s : Nat) (pc : Nat) (ls st : List x_V) (w : x_W) : Prop := g.2.2 ≤ 3072 → ∀ d, k ≤ d → am_Sm g.1 g.2.1 d 286 (x_lL g.2.2 Q) pc (ls.map x_cV) (st.map x_cV) (am_zc (x_cW g.2.2 w) c s)
theorem am_l0 : (List.range 1011).all (fun i => Nat.beq i 162 || am_not0 (am_fe k_L_law i)) = true := by decide +kernel
theorem am_lcod : am_cod 286 = k_L_law := rfl
theorem am_ln0 {n : Nat} (h : n ≠ 162) : am_not0 (am_fe (am_cod 286) n) = true := by
  rcases Nat.lt_or_ge n 1011 with hn | hn
  · have := List.all_eq_true.mp am_l0 n (List.mem_range.mpr hn)
    rw [Bool.or_eq_true] at this
    rcases this with g | g
    · exact absurd (am_beq g) h
    · rw [am_lcod]; exact g
  · rw [am_fe_out _ _ (by rw [am_llen]; exact hn)]; rfl
theorem x_blockL {g : x_G} {k : Nat} {Q : x_Q} {c s : Nat} (stop : List Nat) (hst : am_in stop 162 = true) : ∀ (N : Nat) {pc : Nat} {ls st : List x_V} {w : x_W}, pc ≠ 162 → x_wp g.2.2 k_L_law (x_X g k) Q stop (x_SL g (k + 1) Q c s) N pc ls st w → x_SL g (k + 1) Q c s pc ls st w := by
  intro N
  induction N with
  | zero => intro pc ls st w _ h; exact h
  | succ N ih =>
    intro pc ls st w hp h hg d hd
    have h : x_stp g.2.2 (x_X g k) Q (fun pc' ls' st' w' => bif am_in stop pc' then x_SL g (k + 1) Q c s pc' ls' st' w' else x_wp g.2.2 k_L_law (x_X g k) Q stop (x_SL g (k + 1) Q c s) N pc' ls' st' w') (am_fe k_L_law pc) pc ls st w := h
    refine am_lstep (am_ln0 hp) ?_
    rw [am_lcod]
    have ha := x_sound (bd := am_bd 286) (Cl' := am_Clp g.1 g.2.1 d) (Q' := fun r w => x_lL g.2.2 Q r (am_zc w c s)) (K' := fun pc ls st w => am_Sm g.1 g.2.1 d 286 (x_lL g.2.2 Q) pc ls st (am_zc w c s)) hg (fun m as w q q' hc hq => by
      obtain ⟨d', rfl⟩ : ∃ d', d = d' + 1 := ⟨d - 1, by omega⟩
      refine am_Cl_mono (hc hg d' (by omega)) ?_
      rintro r w ⟨r', w', rfl, rfl, hr⟩
      exact hq _ _ hr) (fun pc' ls' st' w' hk => by
      cases e : am_in stop pc' with
      | true => rw [e, cond_true] at hk; exact hk hg d hd
      | false =>
        rw [e, cond_false] at hk
        exact ih (fun h162 => by rw [h162, hst] at e; cases e) hk hg d hd) (fun v w hv => ⟨v, w, c, s, rfl, rfl, hv⟩) h
    cases hn : am_noal (am_fe k_L_law pc) with
    | true => exact am_shift hn ha
    | false =>
      exfalso
      have hno := am_ln0 hp
      rw [am_lcod] at hno
      generalize am_fe k_L_law pc = i at hn h hno
      cases i
      case invokestatic q =>
        have e1 : am_noal (.invokestatic q) = am_not0 (.invokestatic q) := rfl
        rw [e1, hno] at hn
        cases hn
      all_goals first
        | (exact h.elim)
        | (cases hn)
theorem x_forgetL {g : x_G} {k : Nat} {Q : x_Q} {c s : Nat} {pc : Nat} {ls ls' st : List x_V} {w : x_W} (hf : x_fg ls' ls) (h : x_SL g k Q c s pc ls' st w) : x_SL g k Q c s pc ls st w := by
  intro hg d hd p e R s m args below meth c Z hc H locs lc hr hcn hS hl hlen
  refine h hg d hd p e R s m args below meth c Z hc H locs lc hr hcn hS ?_ ?_
  · refine ⟨by rw [hl.1, List.length_map, List.length_map, x_fg_len hf], hl.2.1, fun q hq => ?_⟩
    obtain ⟨h1, h2, h3⟩ := am_lvl_of hq
    rw [x_nth_am] at h2 h3
    rcases x_fg_nth hf q.1 with g1 | g1
    · rw [g1] at h2
      exact absurd rfl (h2 0)
    · rw [g1] at h2 h3
      have := am_lvl_mem (Γ := g.1) (ls := ls.map x_cV) (i := q.1) (x_nth_am ls q.1) h2
      rw [← h3] at this
      exact hl.2.2 q this
  · rw [List.length_map] at hlen ⊢
    rw [x_fg_len hf]
    exact hlen
