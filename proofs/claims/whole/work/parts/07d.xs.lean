/-! Methods, blocks and calls in whole numbers. g: the representation, the launch, the script's length -/
abbrev x_G : Type := am_G × Launch × Nat
def x_ll (n : Nat) (Q : x_Q) : am_Q := fun r w => ∃ r' w', r = r'.map x_cV ∧ w = x_cW n w' ∧ Q r' w'
/-- method mid, given 'as' in world w, with k frames of room for its calls, ends, with Q -/
def x_X (g : x_G) (k mid : Nat) (as : List x_V) (w : x_W) (Q : x_Q) : Prop := g.2.2 ≤ 3072 → ∀ d, k ≤ d → am_Cl g.1 g.2.1 d mid (as.map x_cV) (x_cW g.2.2 w) (x_ll g.2.2 Q)
/-- from a place of it -/
def x_S (g : x_G) (k mid : Nat) (Q : x_Q) (pc : Nat) (ls st : List x_V) (w : x_W) : Prop := g.2.2 ≤ 3072 → ∀ d, k ≤ d → am_Sm g.1 g.2.1 d mid (x_ll g.2.2 Q) pc (ls.map x_cV) (st.map x_cV) (x_cW g.2.2 w)
theorem am_Cl_mono {Γ : am_G} {l : Launch} {d mid : Nat} {as : List Value} {w : am_W} {Q Q' : am_Q} (h : am_Cl Γ l d mid as w Q) (hq : ∀ r w, Q r w → Q' r w) : am_Cl Γ l d mid as w Q' := by
  unfold am_Cl Met MetFree at h ⊢
  intro p e h1 h2 h3 s m args below h4 h5 h6 h7
  obtain ⟨n, o, a1, a2, a3, ⟨⟨⟨r, w', b1, b2, b3, b4⟩, b5⟩, c⟩⟩ := h p e h1 h2 h3 s m args below h4 h5 h6 h7
  exact ⟨n, o, a1, a2, a3, ⟨⟨⟨r, w', b1, b2, hq _ _ b3, b4⟩, b5⟩, c⟩⟩
theorem x_mono {g : x_G} {k k' mid : Nat} {as : List x_V} {w : x_W} {Q Q' : x_Q} (h : x_X g k mid as w Q) (hk : k ≤ k') (hq : ∀ r w, Q r w → Q' r w) : x_X g k' mid as w Q' :=
  fun hn d hd => am_Cl_mono (h hn d (Nat.le_trans hk hd)) (fun _ _ ⟨r', w', e1, e2, e3⟩ => ⟨r', w', e1, e2, hq _ _ e3⟩)
theorem x_le {g : x_G} {k k' mid : Nat} {as : List x_V} {w : x_W} {Q : x_Q} (hk : k ≤ k') (h : x_X g k mid as w Q) : x_X g k' mid as w Q := x_mono h hk (fun _ _ h => h)
/-- a method's code, its locals -/
def x_m (mid : Nat) (cc : List Instr) (L : Nat) : Prop := am_isM (mid - 20) ∧ am_cod mid = cc ∧ (am_mt mid).2.2.1 = L
theorem x_wp_am {g : x_G} {k mid : Nat} {cc : List Instr} {bd : Nat × Nat} {Q : x_Q} {stop : List Nat} {K : x_K} (hg : g.2.2 ≤ 3072) {d : Nat} (hd : k + 1 ≤ d) (hK : ∀ pc ls st w, K pc ls st w → am_Sm g.1 g.2.1 d mid (x_ll g.2.2 Q) pc (ls.map x_cV) (st.map x_cV) (x_cW g.2.2 w)) : ∀ (N pc : Nat) (ls st : List x_V) (w : x_W), x_wp g.2.2 cc (x_X g k) Q stop K N pc ls st w → am_wp cc (am_Clp g.1 g.2.1 d) bd (x_ll g.2.2 Q) stop (am_Sm g.1 g.2.1 d mid (x_ll g.2.2 Q)) N pc (ls.map x_cV) (st.map x_cV) (x_cW g.2.2 w) := by
  intro N
  induction N with
  | zero => intro pc ls st w h; exact hK _ _ _ _ h
  | succ N ih =>
    intro pc ls st w h
    refine x_sound (K := fun pc' ls' st' w' => bif am_in stop pc' then K pc' ls' st' w' else x_wp g.2.2 cc (x_X g k) Q stop K N pc' ls' st' w') hg (fun m as w q q' hc hq => ?_) (fun pc' ls' st' w' hk => ?_) (fun v w hv => ⟨v, w, rfl, rfl, hv⟩) h
    · obtain ⟨d', rfl⟩ : ∃ d', d = d' + 1 := ⟨d - 1, by omega⟩
      refine am_Cl_mono (hc hg d' (by omega)) ?_
      rintro r w ⟨r', w', rfl, rfl, hr⟩
      exact hq _ _ hr
    · cases e : am_in stop pc' with
      | true => rw [e, cond_true] at hk; rw [cond_true]; exact hK _ _ _ _ hk
      | false => rw [e, cond_false] at hk; rw [cond_false]; exact ih _ _ _ _ hk
theorem x_block {g : x_G} {k mid L : Nat} {cc : List Instr} {Q : x_Q} (hm : x_m mid cc L) (stop : List Nat) (N : Nat) {pc : Nat} {ls st : List x_V} {w : x_W} (h : x_wp g.2.2 cc (x_X g k) Q stop (x_S g (k + 1) mid Q) N pc ls st w) : x_S g (k + 1) mid Q pc ls st w := by
  intro hg d hd
  refine am_block (stop := stop) hm.1 N pc _ _ _ ?_
  rw [hm.2.1]
  exact x_wp_am hg hd (fun pc ls st w h => h hg d hd) N pc ls st w h
def x_vok : x_V → Bool
  | .inr (.inr (.inr _)) => false
  | _ => true
theorem x_enter {g : x_G} {k mid L : Nat} {cc : List Instr} {Q : x_Q} (hm : x_m mid cc L) {as : List x_V} {w : x_W} (hok : as.all x_vok = true) (hL : Nat.ble (x_ent as).length L = true) (h : x_S g k mid Q 0 (x_pad (x_ent as) L) [] w) : x_X g k mid as w Q := by
  intro hg d hd
  refine am_enter hm.1 ?_ ?_ ⟨rfl, rfl⟩ ?_
  · intro v hv
    obtain ⟨u, hu, rfl⟩ := List.mem_map.mp hv
    have := List.all_eq_true.mp hok u hu
    rcases u with z | z | a | u
    · rfl
    · rfl
    · rfl
    · cases this
  · rw [x_ent_am, List.length_map, hm.2.2]
    exact Nat.le_of_ble_eq_true hL
  · rw [x_ent_am, hm.2.2, x_pad_am]
    exact h hg d hd
/-- enter a method and walk it -/
theorem x_in {g : x_G} {k mid L : Nat} {cc : List Instr} {Q : x_Q} (hm : x_m mid cc L) (stop : List Nat) (N : Nat) {as : List x_V} {w : x_W} (hok : as.all x_vok = true) (hL : Nat.ble (x_ent as).length L = true) (h : x_wp g.2.2 cc (x_X g k) Q stop (x_S g (k + 1) mid Q) N 0 (x_pad (x_ent as) L) [] w) : x_X g (k + 1) mid as w Q := x_enter hm hok hL (x_block hm stop N h)
/-- calls whose contract is used -/
theorem x_ci {g : x_G} {k k' mid : Nat} {as : List x_V} {w : x_W} {Q : x_Q} {F : Int → x_W → Prop} (h : x_X g k mid as w (fun r w' => ∃ z, r = [.inl z] ∧ F z w')) (hk : k ≤ k') (hq : ∀ z w', F z w' → Q [.inl z] w') : x_X g k' mid as w Q := x_mono h hk (fun _ w' ⟨z, e, h⟩ => e ▸ hq z w' h)
theorem x_cl {g : x_G} {k k' mid : Nat} {as : List x_V} {w : x_W} {Q : x_Q} {F : Int → x_W → Prop} (h : x_X g k mid as w (fun r w' => ∃ z, r = [x_l z] ∧ F z w')) (hk : k ≤ k') (hq : ∀ z w', F z w' → Q [x_l z] w') : x_X g k' mid as w Q := x_mono h hk (fun _ w' ⟨z, e, h⟩ => e ▸ hq z w' h)
theorem x_cr {g : x_G} {k k' mid : Nat} {as : List x_V} {w : x_W} {Q : x_Q} {F : Nat → x_W → Prop} (h : x_X g k mid as w (fun r w' => ∃ z, r = [x_r z] ∧ F z w')) (hk : k ≤ k') (hq : ∀ z w', F z w' → Q [x_r z] w') : x_X g k' mid as w Q := x_mono h hk (fun _ w' ⟨z, e, h⟩ => e ▸ hq z w' h)
theorem x_cv {g : x_G} {k k' mid : Nat} {as : List x_V} {w : x_W} {Q : x_Q} {F : x_W → Prop} (h : x_X g k mid as w (fun r w' => r = [] ∧ F w')) (hk : k ≤ k') (hq : ∀ w', F w' → Q [] w') : x_X g k' mid as w Q := x_mono h hk (fun _ w' ⟨e, h⟩ => e ▸ hq w' h)
/-- locals that are no longer wanted -/
def x_fg : List x_V → List x_V → Prop
  | [], [] => True
  | a :: l, b :: m => (a = x_n ∨ a = b) ∧ x_fg l m
  | _, _ => False
theorem x_fg_len : ∀ {l m : List x_V}, x_fg l m → l.length = m.length
  | [], [], _ => rfl
  | _ :: l, _ :: m, h => by rw [List.length_cons, List.length_cons, x_fg_len h.2]
  | [], _ :: _, h => h.elim
  | _ :: _, [], h => h.elim
theorem x_fg_nth : ∀ {l m : List x_V}, x_fg l m → ∀ i, x_nth l i = x_n ∨ x_nth l i = x_nth m i
  | [], [], _, _ => Or.inl rfl
  | _ :: _, _ :: _, h, 0 => h.1
  | _ :: _, _ :: _, h, i + 1 => x_fg_nth h.2 i
  | [], _ :: _, h, _ => h.elim
  | _ :: _, [], h, _ => h.elim
theorem x_forget {g : x_G} {k mid : Nat} {Q : x_Q} {pc : Nat} {ls ls' st : List x_V} {w : x_W} (hf : x_fg ls' ls) (h : x_S g k mid Q pc ls' st w) : x_S g k mid Q pc ls st w := by
  intro hg d hd p e R s m args below meth c Z hc H locs lc hr hcn hS hl hlen
  refine h hg d hd p e R s m args below meth c Z hc H locs lc hr hcn hS ?_ ?_
  · refine ⟨by rw [hl.1, List.length_map, List.length_map, x_fg_len hf], hl.2.1, fun q hq => ?_⟩
    obtain ⟨h1, h2, h3⟩ := am_lvl_of hq
    rw [x_nth_am] at h2 h3
    rcases x_fg_nth hf q.1 with g1 | g1
    · rw [g1] at h2
      exact absurd rfl (h2 0)
    · rw [g1] at h2 h3
      have := am_lvl_mem (Γ := g.1) (ls := ls.map x_cV) (i := q.1) (x_nth_am ls q.1) h2
      rw [← h3] at this
      exact hl.2.2 q this
  · rw [List.length_map] at hlen ⊢
    rw [x_fg_len hf]
    exact hlen
/-- truth values as numbers -/
def x_b (c : Prop) [Decidable c] : Int := if c then 1 else 0
theorem x_b01 (c : Prop) [Decidable c] : x_b c = 0 ∨ x_b c = 1 := by
  unfold x_b
  by_cases h : c
  · rw [if_pos h]; exact Or.inr rfl
  · rw [if_neg h]; exact Or.inl rfl
theorem x_brg (c : Prop) [Decidable c] : x_rg (x_b c) := by
  rcases x_b01 c with h | h <;> rw [h] <;> exact ⟨by decide, by decide⟩
theorem x_bne {c : Prop} [Decidable c] (h : ¬ x_b c = 0) : c := by
  by_cases hc : c
  · exact hc
  · exact absurd (if_neg hc) h
theorem x_beq {c : Prop} [Decidable c] (h : x_b c = 0) : ¬ c := fun hc => by rw [x_b, if_pos hc] at h; cases h
