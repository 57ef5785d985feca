/-! The context of a method's walk, and what a place of it says -/
/-- a return: the instruction, and the value as the method's type has it -/
def am_rt (cc : ByteArray) (rt : Option FieldType) (pc : Nat) (r : List Value) : Prop := match r with
  | [] => decode cc pc = .ok (.return_, 1) ∧ rt = none
  | [.int x] => decode cc pc = .ok (.ireturn, 1) ∧ ∃ ty, rt = some ty ∧ narrow ty (.int x) = .int x
  | [.long _] => decode cc pc = .ok (.lreturn, 1) ∧ rt = some .long
  | [.ref x] => decode cc pc = .ok (.areturn, 1) ∧ rt = some (.array .int) ∧ x < 5000
  | _ => False
def am_cn (mid : Nat) (w : am_W) : Prop := w.2.2.2.2.2.1 ≤ (am_bd mid).1 ∧ w.2.2.2.2.2.2 ≤ (am_bd mid).2
def am_cx (Γ : am_G) (l : Launch) (mid d : Nat) (Q : am_Q) (p : Program) (e : Env) (R : Room) (s : State) (m : MethodId) (args : Array Value) (below : List Frame) (meth : Method) (c : Code) (Z : State → Prop) : Prop :=
  p.tables.exec = Jvm.exec ∧ c.code = (am_mt mid).2.1 ∧ c.maxLocals = (am_mt mid).2.2.1 ∧ s.vm.findClass (am_Rn (am_mt mid).2.2.2.2.1) = some m.cls ∧ (∀ w ∈ lw_g, w.before args s = true) ∧ am_env Γ s s.heap ∧
  ((am_mt mid).2.2.2.2.2.1 = 2 → meth.name = "<init>") ∧ d + 1 ≤ R.frames ∧ 96 * (d + 1) ≤ R.locals ∧ (am_bd mid).1 ≤ R.cells ∧ (am_bd mid).2 ≤ R.slots ∧ Γ.2.2.1 + 1 ≤ s.heap.size ∧
  (∀ (r : List Value) (w : am_W) (H : Heap) (locs : List Loc) (pc : Nat) (lc : Array Slot), Q r w → am_rep Γ w H → am_cn mid w → va_S (am_A Γ) s.heap H locs → am_rt (am_mt mid).2.1 (am_mt mid).2.2.2.1 pc r → W p l e R s m args below meth c H locs w.2.2.2.2.2.1 w.2.2.2.2.2.2 Z (F0 m pc lc (r.map (am_cv Γ))))
def am_At (Γ : am_G) (l : Launch) (mid : Nat) (p : Program) (e : Env) (R : Room) (s : State) (m : MethodId) (args : Array Value) (below : List Frame) (meth : Method) (c : Code) (Z : State → Prop) (n : Nat) (ls st : List Value) (w : am_W) : Prop :=
  ∀ (H : Heap) (locs : List Loc) (lc : Array Slot), am_rep Γ w H → am_cn mid w → va_S (am_A Γ) s.heap H locs → am_lv Γ ls lc → ls.length = (am_mt mid).2.2.1 → W p l e R s m args below meth c H locs w.2.2.2.2.2.1 w.2.2.2.2.2.2 Z (F0 m ((am_ct mid).1.getD n 0) lc (st.map (am_cv Γ)))
abbrev am_ck (mid n h : Nat) (i : Instr) : Prop := am_ck1 (am_mt mid).2.2.2.2.1 (am_mt mid).2.2.2.2.2.1 (am_mt mid).2.1 (am_mt mid).2.2.2.1 (am_ct mid).1 ((am_ct mid).1.getD n 0) ((am_ct mid).1.getD (n + 1) 0) h i = true
theorem am_pi_ex {st : List Value} {f : Int32 → List Value → Prop} (h : am_pi st f) : ∃ x r, st = .int x :: r ∧ f x r := by
  unfold am_pi at h
  split at h
  · exact ⟨_, _, rfl, h⟩
  · exact h.elim
theorem am_pl_ex {st : List Value} {f : Int64 → List Value → Prop} (h : am_pl st f) : ∃ x r, st = .long x :: r ∧ f x r := by
  unfold am_pl at h
  split at h
  · exact ⟨_, _, rfl, h⟩
  · exact h.elim
theorem am_pr_ex {st : List Value} {f : Nat → List Value → Prop} (h : am_pr st f) : ∃ x r, st = .ref x :: r ∧ f x r := by
  unfold am_pr at h
  split at h
  · exact ⟨_, _, rfl, h⟩
  · exact h.elim
theorem am_p1_ex {st : List Value} {f : Value → List Value → Prop} (h : am_p1 st f) : ∃ v r, st = v :: r ∧ f v r ∧ ((∃ x, v = .int x) ∨ ∃ x, v = .ref x) := by
  unfold am_p1 at h
  split at h
  · exact ⟨_, _, rfl, h, Or.inl ⟨_, rfl⟩⟩
  · exact ⟨_, _, rfl, h, Or.inr ⟨_, rfl⟩⟩
  · exact h.elim
theorem am_cv_eq (Γ : am_G) (k : Nat) : am_cv Γ (.ref k) = if k = 0 then .null else if k < 5000 then .ref (Γ.2.2.1 + k) else Γ.2.2.2.1 k := rfl
theorem am_cv_ref {Γ : am_G} {U : State} {H : Heap} (he : am_env Γ U H) (k : Nat) : am_cv Γ (.ref k) = .null ∨ ∃ t, am_cv Γ (.ref k) = .ref t := by
  rw [am_cv_eq]
  by_cases h1 : k = 0
  · rw [if_pos h1]; exact Or.inl rfl
  · rw [if_neg h1]
    by_cases h2 : k < 5000
    · rw [if_pos h2]; exact Or.inr ⟨_, rfl⟩
    · rw [if_neg h2]; exact he.2.2.2.2.1 k
theorem am_cv_own {Γ : am_G} {k : Nat} (h1 : 1 ≤ k) (h2 : k < 5000) : am_cv Γ (.ref k) = .ref (Γ.2.2.1 + k) := by
  rw [am_cv_eq, if_neg (by omega), if_pos h2]
theorem am_cv_ro {Γ : am_G} {k : Nat} (h2 : 5000 ≤ k) : am_cv Γ (.ref k) = Γ.2.2.2.1 k := by
  rw [am_cv_eq, if_neg (by omega), if_neg (by omega)]
theorem am_cv_cat1 {Γ : am_G} {U : State} {H : Heap} (he : am_env Γ U H) {v : Value} (h : (∃ x, v = .int x) ∨ ∃ x, v = .ref x) : (am_cv Γ v).category = 1 := by
  rcases h with ⟨x, rfl⟩ | ⟨x, rfl⟩
  · rfl
  · rcases am_cv_ref he x with h | ⟨t, h⟩ <;> rw [h] <;> rfl
theorem am_beq {a b : Nat} (h : Nat.beq a b = true) : a = b := Nat.eq_of_beq_eq_true h
theorem am_cat_ok {Γ : am_G} (hcat : ∀ k, (am_cv Γ (.ref k)).category = 1) {v : Value} (h : am_lng v = false) : (am_cv Γ v).category = 1 := by
  cases v with
  | long x => cases h
  | double x => cases h
  | ref k => exact hcat k
  | _ => rfl
theorem am_lvs {Γ : am_G} (hcat : ∀ k, (am_cv Γ (.ref k)).category = 1) {ls : List Value} {lc' : Array Slot} {n : Nat} {v : Value} {nL : Nat} (hn : n < ls.length) (hL : ls.length = nL) (ho : am_prv ls n = true) (h : lv_has lc' nL ((n, am_cv Γ v) :: (am_lvl Γ ls).filter (fun q => !(q.1 == n) && !(q.1 + 1 == n && q.2.category == 2)))) : am_lv Γ (am_set ls n v) lc' := by
  subst hL
  refine ⟨by rw [h.1, am_set_len], h.2.1, fun q hq => ?_⟩
  obtain ⟨h1, h2, h3⟩ := am_lvl_of hq
  rw [am_nth_set ls n q.1 v hn] at h2 h3
  apply h.2.2 q
  by_cases e : q.1 = n
  · rw [if_pos e] at h3
    rw [List.mem_cons]
    exact Or.inl (Prod.ext e h3)
  · rw [if_neg e] at h2 h3
    refine List.mem_cons_of_mem _ (List.mem_filter.mpr ⟨?_, ?_⟩)
    · have := am_lvl_mem (Γ := Γ) (ls := ls) (i := q.1) rfl h2
      rw [← h3] at this
      exact this
    · have e1 : (q.1 == n) = false := by simp [e]
      rw [e1]
      by_cases e2 : q.1 + 1 = n
      · have e3 : (q.2.category == 2) = false := by
          subst e2
          have ho : am_lng (am_nth ls q.1) = false := by simpa [am_prv] using ho
          rw [h3, am_cat_ok hcat ho]
          rfl
        rw [e3]
        simp
      · have : (q.1 + 1 == n) = false := by simp [e2]
        rw [this]
        simp
theorem am_lvs2 {Γ : am_G} (hcat : ∀ k, (am_cv Γ (.ref k)).category = 1) {ls : List Value} {lc' : Array Slot} {n : Nat} {x : Int64} {nL : Nat} (hn : n + 1 < ls.length) (hL : ls.length = nL) (ho : am_prv ls n = true) (h : lv_has lc' nL ((n, Value.long x) :: (am_lvl Γ ls).filter (fun q => !(q.1 == n) && (!(q.1 == n + 1) && !(q.1 + 1 == n && q.2.category == 2))))) : am_lv Γ (am_set (am_set ls n (.long x)) (n + 1) (.retAddr 0)) lc' := by
  subst hL
  refine ⟨by rw [h.1, am_set_len, am_set_len], h.2.1, fun q hq => ?_⟩
  obtain ⟨h1, h2, h3⟩ := am_lvl_of hq
  rw [am_nth_set (am_set ls n (.long x)) (n + 1) q.1 _ (by rw [am_set_len]; exact hn), am_nth_set ls n q.1 _ (by omega)] at h2 h3
  apply h.2.2 q
  by_cases e0 : q.1 = n + 1
  · rw [if_pos e0] at h2
    exact absurd rfl (h2 0)
  · rw [if_neg e0] at h2 h3
    by_cases e : q.1 = n
    · rw [if_pos e] at h3
      rw [List.mem_cons]
      exact Or.inl (Prod.ext e h3)
    · rw [if_neg e] at h2 h3
      refine List.mem_cons_of_mem _ (List.mem_filter.mpr ⟨?_, ?_⟩)
      · have := am_lvl_mem (Γ := Γ) (ls := ls) (i := q.1) rfl h2
        rw [← h3] at this
        exact this
      · have e1 : (q.1 == n) = false := by simp [e]
        have e4 : (q.1 == n + 1) = false := by simp [e0]
        rw [e1, e4]
        by_cases e2 : q.1 + 1 = n
        · have e3 : (q.2.category == 2) = false := by
            subst e2
            have ho : am_lng (am_nth ls q.1) = false := by simpa [am_prv] using ho
            rw [h3, am_cat_ok hcat ho]
            rfl
          rw [e3]
          simp
        · have : (q.1 + 1 == n) = false := by simp [e2]
          rw [this]
          simp
theorem am_env_cat {Γ : am_G} {U : State} {H : Heap} (he : am_env Γ U H) (k : Nat) : (am_cv Γ (.ref k)).category = 1 := am_cv_cat1 he (Or.inr ⟨k, rfl⟩)
theorem am_lget {Γ : am_G} {ls : List Value} {lc : Array Slot} (hl : am_lv Γ ls lc) {i : Nat} {v : Value} (h : am_nth ls i = v) (hv : ∀ n, v ≠ .retAddr n) : lc[i]? = some (.val (am_cv Γ v)) := hl.2.2 _ (am_lvl_mem h hv)
theorem am_nth_lt : ∀ (l : List Value) (i : Nat) (v : Value), am_nth l i = v → (∀ n, v ≠ .retAddr n) → i < l.length := by
  intro l
  induction l with
  | nil => intro i v h hv; exact absurd h.symm (hv 0)
  | cons a l ih => intro i v h hv; cases i with
    | zero => simp
    | succ i => simpa using ih i v h hv
theorem am_inr_lt : ∀ (l : List Value) (n : Nat), am_inr l n = true → n < l.length := by
  intro l
  induction l with
  | nil => intro n h; cases h
  | cons a l ih => intro n h; cases n with
    | zero => simp
    | succ n => simpa using ih n h
