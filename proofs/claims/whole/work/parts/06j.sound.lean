/-! Calls -/
def am_rm (d mid : Nat) : Room := { frames := d + 1, cells := (am_bd mid).1, slots := (am_bd mid).2, locals := 96 * (d + 1) }
def am_Pc (Γ : am_G) (as : List Value) (w : am_W) : Array Value → State → Prop := fun a U => a = (as.map (am_cv Γ)).toArray ∧ am_rep Γ w U.heap ∧ am_env Γ U U.heap
def am_Qc (Γ : am_G) (Q : am_Q) : Array Value → State → Outcome → State → Prop := fun _ st o t => (∃ (r : List Value) (w : am_W), o = .returned ((r.map (am_cv Γ)).head?) ∧ r.length ≤ 1 ∧ Q r w ∧ am_rep Γ w t.heap) ∧ va_F (am_A Γ) st t
noncomputable def am_ws (mid : Nat) : List Cond := .code (am_mt mid).1 (am_mt mid).2.1 (am_mt mid).2.2.1 (am_mt mid).2.2.2.1 :: lw_g
/-- a call of method mid, with d + 1 frames of room -/
def am_Cl (Γ : am_G) (l : Launch) (d mid : Nat) (as : List Value) (w : am_W) (Q : am_Q) : Prop := Met l (am_mt mid).1 (am_ws mid) (am_rm d mid) (am_Pc Γ as w) (am_Qc Γ Q) (am_bd mid).1 (am_bd mid).2 (am_A Γ)
theorem am_env_kept {Γ : am_G} {U : State} {H H1 : Heap} (h : am_env Γ U H) (hq : ∀ a : Nat, a < H.size → ¬ am_A Γ a → H1[a]? = H[a]?) : am_env Γ U H1 := by
  obtain ⟨h1, h2, h3, h4, h5, h6⟩ := h
  refine ⟨h1, fun a ha => ?_, fun x hx => (h3 x hx).kept hq, h4, h5, h6⟩
  rcases h2 a ha with g | ⟨g, t, g1, g2⟩ | ⟨g, t, g1, g2⟩ | ⟨g, g3, g4, t, g1, g5, g6, g7⟩
  · exact Or.inl g
  · exact Or.inr (Or.inl ⟨g, t, g1, g2.kept hq⟩)
  · exact Or.inr (Or.inr (Or.inl ⟨g, t, g1, g2.kept hq⟩))
  · exact Or.inr (Or.inr (Or.inr ⟨g, g3, g4, t, g1, g5.kept hq, g6.kept hq, g7.kept hq⟩))
theorem am_env_go {Γ : am_G} {s U : State} {H : Heap} (h : am_env Γ s H) (hvm : s.vm.Alike U.vm) (hR : ∀ own k tx q, vk_R own k tx q s → vk_R own k tx q U) (hN : ∀ a i x hh, va_Nw (.methodLinkNest a i x hh) s → va_Nw (.methodLinkNest a i x hh) U) : am_env Γ U H := by
  obtain ⟨h1, h2, h3, h4, h5, h6, h7, h8, h9⟩ := h
  refine ⟨h1.moved hvm, fun a ha => ?_, fun x hx => (h3 x hx).moved hvm, fun x hx => ?_, h5, fun x hx h => hN _ _ _ _ (h6 x hx h), h7.moved hvm, h8.moved hvm, h9.moved hvm⟩
  · rcases h2 a ha with g | ⟨g, t, g1, g2⟩ | ⟨g, t, g1, g2⟩ | ⟨g, g3, g4, t, g1, g5, g6, g7⟩
    · exact Or.inl g
    · exact Or.inr (Or.inl ⟨g, t, g1, g2.moved hvm⟩)
    · exact Or.inr (Or.inr (Or.inl ⟨g, t, g1, g2.moved hvm⟩))
    · exact Or.inr (Or.inr (Or.inr ⟨g, g3, g4, t, g1, g5.moved hvm, g6.moved hvm, g7.moved hvm⟩))
  · obtain ⟨q, tx, g1, g2⟩ := h4 x hx
    exact ⟨q, tx, g1, hR _ _ _ _ g2⟩
theorem am_env_warm {Γ : am_G} {s U : State} {H : Heap} (h : am_env Γ s H) (hW : s.WarmedH U.vm) : am_env Γ U H := am_env_go h hW.alike (fun _ _ _ _ g => g.warm hW) (fun _ _ _ _ g => g.warmM hW)
theorem am_blind (Γ : am_G) (as : List Value) (w : am_W) : FrameBlind (am_Pc Γ as w) := fun a U g mk h => ⟨h.1, h.2.1, am_env_go (s := U) (U := U.calling g mk a) h.2.2 (Vm.Alike.refl U.vm) (fun _ _ _ _ g => vk_R.same rfl g) (fun _ _ _ _ g => va_Nw.same rfl rfl g)⟩
theorem am_pre {Γ : am_G} {s : State} {H : Heap} {locs : List Loc} {as : List Value} {w : am_W} (he : am_env Γ s s.heap) (hS : va_S (am_A Γ) s.heap H locs) (hr : am_rep Γ w H) : ∀ U : State, U.heap = H → s.WarmedH U.vm → am_Pc Γ as w (as.map (am_cv Γ)).toArray U := fun U hU hW => ⟨rfl, by rw [hU]; exact hr, am_env_warm (by rw [hU]; exact am_env_kept he hS.2.1) hW⟩
theorem am_good {mid : Nat} (h : am_isM (mid - 20)) : GoodIn lw_g (am_ws mid) := by
  intro w hw
  have hm : w ∈ lw_g := by
    rcases List.mem_cons.mp hw with e | e
    · rw [e]
      exact am_mw h _ (by unfold am_mwd; exact List.mem_append_left _ List.mem_cons_self)
    · exact e
  exact ⟨hm, good_of_word (List.mem_filter.mp hm).2⟩
theorem am_tk_ex : ∀ (k : Nat) (st acc : List Value) (f : List Value → List Value → Prop), am_tk k st acc f → ∃ as r, st = as.reverse ++ r ∧ as.length = k ∧ f (as ++ acc) r := by
  intro k
  induction k with
  | zero => intro st acc f h; exact ⟨[], st, rfl, rfl, h⟩
  | succ k ih =>
    intro st acc f h
    cases st with
    | nil => exact h.elim
    | cons v st =>
      obtain ⟨as, r, h1, h2, h3⟩ := ih st (v :: acc) f h
      refine ⟨as ++ [v], r, ?_, by simp [h2], by simpa using h3⟩
      rw [h1]
      simp
section AMK
variable {p : Program} {l : Launch} {e : Env} {R : Room} {s : State} {m : MethodId} {args : Array Value} {below : List Frame} {meth : Method} {c : Code} {H : Heap} {locs : List Loc} {cells slots : Nat} {Z : State → Prop}
theorem am_call {Γ : am_G} {pc mc ms : Nat} {lc : Array Slot} {st0 rest : List Value} {a : Array Value} {Q0 : am_Q} (hr : va_Run p l e R s m args below meth c H locs cells slots mc ms (F0 m pc lc st0) rest (am_Qc Γ Q0 a) (am_A Γ)) (hS : va_S (am_A Γ) s.heap H locs)
    (kk : ∀ (r : List Value) (w : am_W) (H1 : Heap) (locs1 : List Loc), Q0 r w → am_rep Γ w H1 → va_S (am_A Γ) s.heap H1 locs1 → W p l e R s m args below meth c H1 locs1 (cells + mc) (slots + ms) Z (F0 m (pc + 3) lc (r.map (am_cv Γ) ++ rest))) : W p l e R s m args below meth c H locs cells slots Z (F0 m pc lc st0) := by
  intro T hT X
  obtain ⟨v, st₀, t, T', L, h0, X', hL, e1, e2, ⟨⟨r, w, hv, hlen, hq, hrep⟩, hz, hk⟩, st⟩ := hr T hT X
  have hv : v = (r.map (am_cv Γ)).head? := by cases hv; rfl
  rw [h0] at hz hk
  have hS1 : va_S (am_A Γ) s.heap T'.heap (locs ++ L) := ⟨Nat.le_trans hS.1 (by rw [e1]; exact hz), fun q h1 h2 => by rw [e1, hk q (Nat.lt_of_lt_of_le h1 hS.1) h2]; exact hS.2.1 q h1 h2, fun q hq => by
    rcases List.mem_append.mp hq with h | h
    · exact hS.2.2 q h
    · exact hL q h⟩
  obtain ⟨t2, a1, b1⟩ := kk r w T'.heap (locs ++ L) hq (by rw [e1]; exact hrep) hS1 T' rfl X'
  have e3 : v.toList = r.map (am_cv Γ) := by
    rw [hv]
    match r, hlen with
    | [], _ => rfl
    | [x], _ => rfl
    | x :: y :: z, h => simp at h
  rw [← e3] at a1
  exact ⟨t2, st t2 a1, b1⟩
end AMK
