/-! How an abstract world stands in the heap. Γ: numbers of classes and of their slots; of array classes; the address ahead of the first cell; of the cells from 5000 on (read only) the values, the shapes, the ints -/
abbrev am_G : Type := va_G × (Nat → ClassId) × Nat × (Nat → Value) × (Nat → Nat × Nat) × (Nat → Nat → Int32)
def am_cv (Γ : am_G) : Value → Value
  | .ref k => if k = 0 then .null else if k < 5000 then .ref (Γ.2.2.1 + k) else Γ.2.2.2.1 k
  | v => v
def am_rq (Γ : am_G) (k : Nat) : Option Nat := if k = 0 then none else some (Γ.2.2.1 + k)
def am_A (Γ : am_G) : Nat → Prop := fun q => Γ.2.2.1 + 1 ≤ q
def am_roR (a k : Nat) : Nat := if 5100 ≤ a ∧ a < 5104 ∧ k = 0 then a + 100 else 0
def am_fs (Γ : am_G) (w : am_W) (ci a n : Nat) : List Value := (List.range n).map fun k => am_cv Γ (am_fv w (am_kd (am_ty ci k)) a k)
def am_ar (Γ : am_G) (w : am_W) (a : Nat) : (Nat → Int32) ⊕ (Nat → Int64) ⊕ (Nat → UInt32) ⊕ (Nat → UInt64) ⊕ (Nat → Option Nat) :=
  if (w.1 a).1 = 101 then .inr (.inl (w.2.2.1 a)) else if 104 ≤ (w.1 a).1 then .inr (.inr (.inr (.inr (fun j => am_rq Γ (w.2.2.2.1 a j))))) else .inl (w.2.1 a)
def am_cell (Γ : am_G) (w : am_W) (a : Nat) : va_E := if (w.1 a).1 < 90 then .inr ((w.1 a).1 - 1, am_fs Γ w ((w.1 a).1 - 1) a (w.1 a).2) else .inl (Γ.2.1 (w.1 a).1, (w.1 a).2, am_ar Γ w a)
def am_wl (Γ : am_G) (w : am_W) : va_W := (List.range (w.2.2.2.2.1 - 1)).map fun j => (Γ.2.2.1 + (j + 1), am_cell Γ w (j + 1))
def am_wf (Γ : am_G) (w : am_W) : Prop :=
  (∀ a, a = 0 ∨ (w.2.2.2.2.1 ≤ a ∧ a < 5000) → (w.1 a).1 = 0) ∧ (1 ≤ w.2.2.2.2.1 ∧ w.2.2.2.2.1 ≤ 204) ∧
  (∀ a, 1 ≤ a → a < w.2.2.2.2.1 → (1 ≤ (w.1 a).1 ∧ (w.1 a).1 ≤ 13 ∧ (w.1 a).2 = am_nf ((w.1 a).1 - 1)) ∨ (100 ≤ (w.1 a).1 ∧ (w.1 a).1 ≤ 106 ∧ (104 ≤ (w.1 a).1 → ∀ j, w.2.2.2.1 a j < 5000))) ∧
  (∀ a, 5000 ≤ a → w.1 a = Γ.2.2.2.2.1 a ∧ (∀ j, w.2.1 a j = Γ.2.2.2.2.2 a j) ∧ ∀ k, w.2.2.2.1 a k = am_roR a k)
def am_rep (Γ : am_G) (w : am_W) (H : Heap) : Prop :=
  am_wf Γ w ∧ va_P Γ.1 am_cls (am_wl Γ w) H ∧ va_D (am_A Γ) (am_wl Γ w) ∧ Γ.2.2.1 + w.2.2.2.2.1 ≤ H.size ∧ (w.2.2.2.2.1 < 204 → H.size = Γ.2.2.1 + w.2.2.2.2.1)
def am_tys (Γ : am_G) : List (ClassId × FieldType) := [(Γ.2.1 100, .int), (Γ.2.1 101, .long), (Γ.2.1 102, .byte), (Γ.2.1 103, .boolean), (Γ.2.1 104, .object "TeaTrolley$Law"), (Γ.2.1 105, .object "TeaTrolley$State"), (Γ.2.1 106, .array .int)]
/-- a new table of four rows of eight ints: one step of the machine (shown at the end, over the library's own law) -/
def am_ML : Prop := ∀ (p : Program) (l : Launch) (e : Env) (R : Room) (s : State) (m : MethodId) (args : Array Value) (below : List Frame) (meth : Method) (c : Code) (T : State) (locs : List Loc) (cells slots : Nat), Stand p l e R s m args below meth c T locs cells slots → p.tables.exec = Jvm.exec → ∀ (own : String) (index : Nat), s.vm.findClass own = some m.cls → (Cond.classLink own index "[[I").before args s = true → (Cond.arrayOver (.array .int)).before args s = true → (Cond.arrayClass .int).before args s = true → ∀ (g : JFrame), g.method = m → decode c.code g.pc = .ok (.multianewarray index 2, 4) → ∀ (rest : List Value), g.stack = .int 8 :: .int 4 :: rest → cells + 5 ≤ R.cells → slots + 36 ≤ R.slots →
  ∃ (T1 : State) (cA comp : ClassId), s.vm.findClass "[[I" = some cA ∧ s.vm.findClass "[I" = some comp ∧ T1.heap.size = T.heap.size + 5 ∧ (∀ q : Nat, q < T.heap.size → T1.heap[q]? = T.heap[q]?) ∧ T1.heap[T.heap.size]? = some (arrV cA 4 (fun j => if j < 4 then .ref (T.heap.size + 1 + j) else .null)) ∧ (∀ j : Nat, j < 4 → T1.heap[T.heap.size + 1 + j]? = some (arrV comp 8 (fun _ => .int 0))) ∧
    Stand p l e R s m args below meth c T1 locs (cells + 5) (slots + 36) ∧ ∀ target, Steps p.tables e below (T1.setTop { g with pc := g.pc + 4, stack := .ref T.heap.size :: rest }) target → Steps p.tables e below (T.setTop g) target
/-- the class of arrays of int arrays -/
def am_AA (U : State) : Prop := am_ML ∧ (Cond.arrayOver (.array .int)).before #[] U = true
theorem am_AA.moved {u U : State} (hvm : u.vm.Alike U.vm) (h : am_AA u) : am_AA U := by
  refine ⟨h.1, ?_⟩
  obtain ⟨comp, c, k, h1, h2, h3, h4, h5⟩ := arrayOverA_spec h.2
  obtain ⟨k', hk', he⟩ := hvm.2.2 _ _ h3
  have hi : (U.vm.classes.findIdx? fun (x : Class) => match x.kind with | .array component _ => component == comp | _ => false) = some c := by
    have e0 : U.vm.bare = u.vm.bare := by first | exact hvm.bare_eq | exact hvm.bare_eq.symm
    have e1 := va_idx_bare U.vm comp
    rw [e0] at e1
    exact e1.symm.trans ((va_idx_bare u.vm comp).trans h2)
  have hkind : k'.kind = .array comp (.array .int) := by rw [he]; exact h4
  have f1 : U.vm.findClass (FieldType.array .int).toString = some comp := by rw [hvm.findClass]; exact h1
  have f2 : U.vm.findClass ("[" ++ (FieldType.array .int).toString) = some c := by rw [hvm.findClass]; exact h5
  unfold Cond.before Cond.holds
  simp only [Cond.value]
  rw [f1, Option.bind_some]
  refine (congrArg (fun o : Option Nat => (o.bind (fun c => (U.vm.classes[c]?).map fun (k : Class) => match k.kind with | .array _ ty => decide (ty = FieldType.array .int) && decide (U.vm.findClass ("[" ++ (FieldType.array .int).toString) = some c) | _ => false) == some true)) hi).trans ?_
  simp [hk', hkind, f2]
/-- what doesn't change: classes, static arrays, texts -/
def am_env (Γ : am_G) (U : State) (H : Heap) : Prop :=
  va_K Γ.1 am_cls (am_tys Γ) U ∧
  (∀ a, 5000 ≤ a → (Γ.2.2.2.2.1 a).1 = 0 ∨
    ((Γ.2.2.2.2.1 a).1 = 200 ∧ ∃ t, Γ.2.2.2.1 a = .ref t ∧ va_T .int t (Γ.2.2.2.2.1 a).2 (fun j => .int (Γ.2.2.2.2.2 a j)) (am_A Γ) U H) ∨
    ((Γ.2.2.2.2.1 a).1 = 202 ∧ ∃ t, Γ.2.2.2.1 a = .ref t ∧ va_T .byte t (Γ.2.2.2.2.1 a).2 (fun j => .int (Γ.2.2.2.2.2 a j)) (am_A Γ) U H) ∨
    ((Γ.2.2.2.2.1 a).1 = 90 ∧ 5100 ≤ a ∧ a < 5104 ∧ ∃ t, Γ.2.2.2.1 a = .ref t ∧ va_O "java/lang/String" t (am_A Γ) U H ∧ va_OF "java/lang/String" "coder" "B" (.int (Γ.2.2.2.2.2 a 1)) t (am_A Γ) U H ∧ va_OF "java/lang/String" "value" "[B" (Γ.2.2.2.1 (a + 100)) t (am_A Γ) U H)) ∧
  (∀ x ∈ am_LG, va_Z (am_sf x.2.2).1 (am_sf x.2.2).2.1 (am_sf x.2.2).2.2 (if x.2.2 = 1 then .int 1 else Γ.2.2.2.1 x.2.2) (am_A Γ) U H) ∧
  (∀ x ∈ am_LS, ∃ q tx, Γ.2.2.2.1 x.2.2.1 = .ref q ∧ vk_R (am_Rn x.1) x.2.1 tx q U) ∧ (∀ a, Γ.2.2.2.1 a = .null ∨ ∃ t, Γ.2.2.2.1 a = .ref t) ∧
  (∀ x ∈ am_LM, x.2.2.2 = 3 → va_Nw (.methodLinkNest (am_Rn x.1) x.2.1 (am_mt x.2.2.1).1 "TeaTrolley") U) ∧ va_AO "TeaTrolley$Law" U ∧ va_AO "TeaTrolley$State" U ∧ am_AA U
/-- the locals -/
def am_lvl (Γ : am_G) (ls : List Value) : List (Nat × Value) := (List.range ls.length).filterMap fun i => match am_nth ls i with
  | .retAddr _ => none
  | v => some (i, am_cv Γ v)
def am_lv (Γ : am_G) (ls : List Value) (lc : Array Slot) : Prop := lv_has lc ls.length (am_lvl Γ ls)
theorem am_wl_len (Γ : am_G) (w : am_W) : (am_wl Γ w).length = w.2.2.2.2.1 - 1 := by simp [am_wl]
theorem am_wl_get {Γ : am_G} {w : am_W} {a : Nat} (h1 : 1 ≤ a) (h2 : a < w.2.2.2.2.1) : (am_wl Γ w)[a - 1]? = some (Γ.2.2.1 + a, am_cell Γ w a) := by
  have h3 : a - 1 < w.2.2.2.2.1 - 1 := by omega
  have e : a - 1 + 1 = a := by omega
  simp only [am_wl, List.getElem?_map, List.getElem?_range h3, Option.map_some, e]
theorem am_wl_set {Γ : am_G} {w w' : am_W} {a : Nat} (h1 : 1 ≤ a) (h2 : a < w.2.2.2.2.1) (hN : w'.2.2.2.2.1 = w.2.2.2.2.1) (ho : ∀ b, b ≠ a → am_cell Γ w' b = am_cell Γ w b) : am_wl Γ w' = (am_wl Γ w).set (a - 1) (Γ.2.2.1 + a, am_cell Γ w' a) := by
  apply List.ext_getElem?
  intro j
  by_cases hj : j < w.2.2.2.2.1 - 1
  · have g1 : (am_wl Γ w')[j]? = some (Γ.2.2.1 + (j + 1), am_cell Γ w' (j + 1)) := by
      have := am_wl_get (Γ := Γ) (w := w') (a := j + 1) (by omega) (by omega)
      simpa using this
    rw [g1]
    by_cases e : j = a - 1
    · subst e
      rw [List.getElem?_set_self (by rw [am_wl_len]; exact hj), show a - 1 + 1 = a by omega]
    · rw [List.getElem?_set_ne (fun q => e q.symm)]
      have := am_wl_get (Γ := Γ) (w := w) (a := j + 1) (by omega) (by omega)
      rw [show j + 1 - 1 = j by omega] at this
      rw [this, ho (j + 1) (by omega)]
  · rw [List.getElem?_eq_none (by rw [am_wl_len]; omega), List.getElem?_eq_none (by rw [List.length_set, am_wl_len]; omega)]
theorem am_fs_get {Γ : am_G} {w : am_W} {ci a n k : Nat} (h : k < n) : (am_fs Γ w ci a n)[k]? = some (am_cv Γ (am_fv w (am_kd (am_ty ci k)) a k)) := by
  simp [am_fs, h]
theorem am_fs_set {Γ : am_G} {w w' : am_W} {ci a n k : Nat} (h : k < n) (ho : ∀ j, j ≠ k → am_fv w' (am_kd (am_ty ci j)) a j = am_fv w (am_kd (am_ty ci j)) a j) : am_fs Γ w' ci a n = (am_fs Γ w ci a n).set k (am_cv Γ (am_fv w' (am_kd (am_ty ci k)) a k)) := by
  apply List.ext_getElem?
  intro j
  by_cases hj : j < n
  · rw [am_fs_get hj]
    by_cases e : j = k
    · subst e
      rw [List.getElem?_set_self (by simp [am_fs, h])]
    · rw [List.getElem?_set_ne (fun q => e q.symm), am_fs_get hj, ho j e]
  · rw [List.getElem?_eq_none (by simp [am_fs]; omega), List.getElem?_eq_none (by simp [am_fs]; omega)]
theorem am_own {Γ : am_G} {w : am_W} {H : Heap} {U : State} {H' : Heap} (hw : am_wf Γ w) (he : am_env Γ U H') {a kd : Nat} (h : (w.1 a).1 = kd) (h0 : kd ≠ 0) (h1 : kd ≠ 200) (h2 : kd ≠ 202) (h3 : kd ≠ 90) : 1 ≤ a ∧ a < w.2.2.2.2.1 := by
  rcases Nat.lt_or_ge a 5000 with h5 | h5
  · rcases Nat.eq_zero_or_pos a with q | q
    · exact absurd (h.symm.trans (hw.1 a (Or.inl q))) h0
    · rcases Nat.lt_or_ge a w.2.2.2.2.1 with g | g
      · exact ⟨q, g⟩
      · exact absurd (h.symm.trans (hw.1 a (Or.inr ⟨g, h5⟩))) h0
  · rw [(hw.2.2.2 a h5).1] at h
    rcases he.2.1 a h5 with q | ⟨q, -⟩ | ⟨q, -⟩ | ⟨q, -⟩ <;> omega
theorem am_lvl_mem {Γ : am_G} {ls : List Value} {i : Nat} {v : Value} (h : am_nth ls i = v) (hv : ∀ n, v ≠ .retAddr n) : (i, am_cv Γ v) ∈ am_lvl Γ ls := by
  have hi : i < ls.length := by
    rcases Nat.lt_or_ge i ls.length with q | q
    · exact q
    · exfalso
      have : ∀ (l : List Value) (i : Nat), l.length ≤ i → am_nth l i = .retAddr 0 := by
        intro l
        induction l with
        | nil => intro i _; rfl
        | cons a l ih => intro i hi; cases i with
          | zero => simp at hi
          | succ i => exact ih i (by simpa using hi)
      exact hv 0 (h.symm.trans (this ls i q))
  refine List.mem_filterMap.mpr ⟨i, List.mem_range.mpr hi, ?_⟩
  subst h
  cases hc : am_nth ls i <;> simp_all
theorem am_lvl_of {Γ : am_G} {ls : List Value} {q : Nat × Value} (h : q ∈ am_lvl Γ ls) : q.1 < ls.length ∧ (∀ n, am_nth ls q.1 ≠ .retAddr n) ∧ q.2 = am_cv Γ (am_nth ls q.1) := by
  obtain ⟨i, hi, h⟩ := List.mem_filterMap.mp h
  have hi := List.mem_range.mp hi
  cases hc : am_nth ls i <;> rw [hc] at h <;> simp at h <;> subst h <;> exact ⟨hi, by intro n; rw [hc]; simp, by rw [hc]⟩
theorem am_nth_set : ∀ (ls : List Value) (n i : Nat) (v : Value), n < ls.length → am_nth (am_set ls n v) i = if i = n then v else am_nth ls i := by
  intro ls
  induction ls with
  | nil => intro n i v h; simp at h
  | cons a l ih =>
    intro n i v h
    cases n with
    | zero => cases i with
      | zero => rfl
      | succ i => simp [am_set, am_nth]
    | succ n => cases i with
      | zero => simp [am_set, am_nth]
      | succ i =>
        simp only [am_set, am_nth]
        rw [ih n i v (by simpa using h)]
        by_cases e : i = n
        · subst e; simp
        · simp [e]
theorem am_set_len : ∀ (ls : List Value) (n : Nat) (v : Value), (am_set ls n v).length = ls.length := by
  intro ls
  induction ls with
  | nil => intro n v; rfl
  | cons a l ih => intro n v; cases n with
    | zero => rfl
    | succ n => simp [am_set, ih]
