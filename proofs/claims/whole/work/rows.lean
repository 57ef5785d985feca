section
/-- a new table of four rows of eight ints: one step of the machine (shown at the end, over the library's own law) -/
def am_ML : Prop := ∀ (p : Program) (l : Launch) (e : Env) (R : Room) (s : State) (m : MethodId) (args : Array Value) (below : List Frame) (meth : Method) (c : Code) (T : State) (locs : List Loc) (cells slots : Nat), Stand p l e R s m args below meth c T locs cells slots → p.tables.exec = Jvm.exec → ∀ (own : String) (index : Nat), s.vm.findClass own = some m.cls → (Cond.classLink own index "[[I").before args s = true → (Cond.arrayOver (.array .int)).before args s = true → (Cond.arrayClass .int).before args s = true → ∀ (g : JFrame), g.method = m → decode c.code g.pc = .ok (.multianewarray index 2, 4) → ∀ (rest : List Value), g.stack = .int 8 :: .int 4 :: rest → cells + 5 ≤ R.cells → slots + 36 ≤ R.slots →
  ∃ (T1 : State) (cA comp : ClassId), s.vm.findClass "[[I" = some cA ∧ s.vm.findClass "[I" = some comp ∧ T1.heap.size = T.heap.size + 5 ∧ (∀ q : Nat, q < T.heap.size → T1.heap[q]? = T.heap[q]?) ∧ T1.heap[T.heap.size]? = some (arrV cA 4 (fun j => if j < 4 then .ref (T.heap.size + 1 + j) else .null)) ∧ (∀ j : Nat, j < 4 → T1.heap[T.heap.size + 1 + j]? = some (arrV comp 8 (fun _ => .int 0))) ∧
    Stand p l e R s m args below meth c T1 locs (cells + 5) (slots + 36) ∧ ∀ target, Steps p.tables e below (T1.setTop { g with pc := g.pc + 4, stack := .ref T.heap.size :: rest }) target → Steps p.tables e below (T.setTop g) target
end
section
/-! a new table of four rows of eight ints. The machine pushes the outer cell, then a row and a store for each of the four; in the end the state is that of five pushes, the first of the outer cell as it stands in the end: so no store is left in what has to be framed -/
/-- `n` cells alike, pushed one behind another -/
def gx_add (row : Cell) : Nat → State → State
  | 0, u => u
  | n + 1, u => (gx_add row n u).pushCell row
/-- a row of eight zeros -/
def gx_r (comp : ClassId) : Cell := arrV comp 8 (fun _ => .int 0)
/-- the outer cell at `b`, its first `n` places filled with the cells behind it -/
def gx_t (cA : ClassId) (b n : Nat) : Cell := arrV cA 4 (fun j => if j < n then .ref (b + 1 + j) else .null)
theorem gx_r_sz (comp : ClassId) : (gx_r comp).slots.size = 8 := arrV_size _ _ _
theorem gx_t_sz (cA : ClassId) (b n : Nat) : (gx_t cA b n).slots.size = 4 := arrV_size _ _ _
theorem gx_t_set (cA : ClassId) (b n : Nat) : (gx_t cA b n).setSlot n (.ref (b + 1 + n)) = gx_t cA b (n + 1) := by
  refine (arrV_store _ _ _ _ _).trans (congrArg (arrV cA 4) (funext fun j => ?_))
  show (if j = n then Value.ref (b + 1 + n) else if j < n then Value.ref (b + 1 + j) else Value.null) = if j < n + 1 then Value.ref (b + 1 + j) else Value.null
  by_cases h1 : j = n
  · subst h1; rw [if_pos rfl, if_pos (Nat.lt_succ_self _)]
  · rw [if_neg h1]
    by_cases h2 : j < n
    · rw [if_pos h2, if_pos (by omega)]
    · rw [if_neg h2, if_neg (by omega)]
theorem gx_add_vm (row : Cell) (n : Nat) (u : State) : (gx_add row n u).vm = u.vm := by
  induction n with
  | zero => rfl
  | succ n ih => exact ih
theorem gx_add_size (row : Cell) (n : Nat) (u : State) : (gx_add row n u).heap.size = u.heap.size + n := by
  induction n with
  | zero => rfl
  | succ n ih =>
    show ((gx_add row n u).heap.push row).size = _
    rw [Array.size_push, ih]; rfl
theorem gx_add_used (row : Cell) (n : Nat) (u : State) : (gx_add row n u).slotsUsed = u.slotsUsed + n * row.slots.size := by
  induction n with
  | zero => rw [Nat.zero_mul]; rfl
  | succ n ih =>
    show (gx_add row n u).slotsUsed + row.slots.size = _
    rw [ih, Nat.succ_mul, Nat.add_assoc]
theorem gx_add_old (row : Cell) (n : Nat) (u : State) {q : Nat} (hq : q < u.heap.size) : (gx_add row n u).heap[q]? = u.heap[q]? := by
  induction n with
  | zero => rfl
  | succ n ih =>
    show ((gx_add row n u).heap.push row)[q]? = _
    rw [Array.getElem?_push, if_neg (by rw [gx_add_size]; omega), ih]
theorem gx_add_new (row : Cell) (n : Nat) (u : State) {j : Nat} (hj : j < n) : (gx_add row n u).heap[u.heap.size + j]? = some row := by
  induction n with
  | zero => exact absurd hj (Nat.not_lt_zero _)
  | succ n ih =>
    show ((gx_add row n u).heap.push row)[u.heap.size + j]? = _
    rw [Array.getElem?_push, gx_add_size]
    by_cases h : u.heap.size + j = u.heap.size + n
    · rw [if_pos h]
    · rw [if_neg h, ih (by omega)]
theorem gx_add_top (row : Cell) (n : Nat) (u : State) (f : JFrame) : gx_add row n (u.setTop f) = (gx_add row n u).setTop f := by
  induction n with
  | zero => rfl
  | succ n ih =>
    show (gx_add row n (u.setTop f)).pushCell row = _
    rw [ih]; rfl
/-- a store in the cell that was pushed last is a push of the cell as it then is -/
theorem gx_put0 (u : State) {x y : Cell} (h : x.slots.size = y.slots.size) : (u.pushCell x).setCell u.heap.size y = u.pushCell y := by
  have hH : (u.heap.push x).setIfInBounds u.heap.size y = u.heap.push y := by
    refine Array.ext_getElem? fun j => ?_
    rw [Array.getElem?_setIfInBounds, Array.getElem?_push, Array.getElem?_push, Array.size_push]
    by_cases hj : u.heap.size = j
    · rw [if_pos hj, if_pos (Nat.lt_succ_self _), if_pos hj.symm]
    · rw [if_neg hj, if_neg (fun k => hj k.symm), if_neg (fun k => hj k.symm)]
  show ({ u with heap := (u.heap.push x).setIfInBounds u.heap.size y, slotsUsed := u.slotsUsed + x.slots.size } : State) = { u with heap := u.heap.push y, slotsUsed := u.slotsUsed + y.slots.size }
  rw [hH, h]
/-- a store ahead of the last cell and that cell's push change places -/
theorem gx_swap (u : State) (x y : Cell) {a : Nat} (h : a < u.heap.size) : (u.pushCell x).setCell a y = (u.setCell a y).pushCell x := by
  have hH : (u.heap.push x).setIfInBounds a y = (u.heap.setIfInBounds a y).push x := by
    refine Array.ext_getElem? fun j => ?_
    rw [Array.getElem?_setIfInBounds, Array.getElem?_push, Array.getElem?_push, Array.getElem?_setIfInBounds, Array.size_push, Array.size_setIfInBounds]
    by_cases hj : a = j
    · subst hj
      rw [if_pos rfl, if_pos (by omega), if_neg (by omega), if_pos rfl, if_pos h]
    · rw [if_neg hj, if_neg hj]
  show ({ u with heap := (u.heap.push x).setIfInBounds a y, slotsUsed := u.slotsUsed + x.slots.size } : State) = { u with heap := (u.heap.setIfInBounds a y).push x, slotsUsed := u.slotsUsed + x.slots.size }
  rw [hH]
theorem gx_put (row : Cell) (n : Nat) (u : State) {x y : Cell} (h : x.slots.size = y.slots.size) : (gx_add row n (u.pushCell x)).setCell u.heap.size y = gx_add row n (u.pushCell y) := by
  induction n with
  | zero => exact gx_put0 u h
  | succ n ih =>
    have hs : u.heap.size < (gx_add row n (u.pushCell x)).heap.size := by
      rw [gx_add_size]
      show u.heap.size < (u.heap.push x).size + n
      rw [Array.size_push]; omega
    exact (gx_swap _ _ _ hs).trans (congrArg (fun v : State => v.pushCell row) ih)
/-- the state when `n` rows are there and in their places -/
def gx_W (cA comp : ClassId) (u : State) (n : Nat) : State := gx_add (gx_r comp) n (u.pushCell (gx_t cA u.heap.size n))
theorem gx_W_size (cA comp : ClassId) (u : State) (n : Nat) : (gx_W cA comp u n).heap.size = u.heap.size + 1 + n :=
  (gx_add_size _ _ _).trans (congrArg (· + n) (Array.size_push ..))
theorem gx_W_used (cA comp : ClassId) (u : State) (n : Nat) : (gx_W cA comp u n).slotsUsed = u.slotsUsed + 4 + n * 8 := by
  refine (gx_add_used _ _ _).trans ?_
  show u.slotsUsed + (gx_t cA u.heap.size n).slots.size + n * (gx_r comp).slots.size = _
  rw [gx_t_sz, gx_r_sz]
theorem gx_W_vm (cA comp : ClassId) (u : State) (n : Nat) : (gx_W cA comp u n).vm = u.vm := gx_add_vm _ _ _
theorem gx_W_at (cA comp : ClassId) (u : State) (n : Nat) : (gx_W cA comp u n).heap[u.heap.size]? = some (gx_t cA u.heap.size n) := by
  refine (gx_add_old _ _ _ (by show _ < (u.heap.push _).size; rw [Array.size_push]; exact Nat.lt_succ_self _)).trans ?_
  exact Array.getElem?_push_size
/-- one more row, and its store -/
theorem gx_W_next (cA comp : ClassId) (u : State) (n : Nat) : ((gx_W cA comp u n).pushCell (gx_r comp)).setCell u.heap.size ((gx_t cA u.heap.size n).setSlot n (.ref (gx_W cA comp u n).heap.size)) = gx_W cA comp u (n + 1) := by
  rw [gx_W_size, gx_t_set]
  exact gx_put (gx_r comp) (n + 1) u ((gx_t_sz _ _ _).trans (gx_t_sz _ _ _).symm)
/-! the machine's own words -/
/-- what both classes of arrays are -/
def gx_K (vm : Vm) (cA comp : ClassId) : Prop := (∃ k, vm.classes[cA]? = some k ∧ k.kind = .array comp (.array .int)) ∧ ∃ k b, vm.classes[comp]? = some k ∧ k.kind = .array b .int
/-- limits of a platform that this table needs -/
def gx_L (e : Env) : Prop := 8 ≤ e.platform.arrayLengthLimit ∧ 8 * componentBytes .int ≤ e.platform.maxHeapBytes ∧ 4 * componentBytes (.array .int) ≤ e.platform.maxHeapBytes
theorem gx_row {E : CtlPost} {e : Env} {d : Bool} {acts : List Action} {u : State} {cA comp : ClassId} {Q : Addr → Pre} (hK : gx_K u.vm cA comp) (hL : gx_L e) (hc : u.heap.size < e.platform.maxCells) (hs : u.slotsUsed + 8 ≤ e.platform.maxSlots)
    (hq : ∀ acts', Q u.heap.size d acts' (u.pushCell (gx_r comp))) : wp (Op.multianewarray.make comp [8]) Q E e d acts u := by
  obtain ⟨-, k, b, hk, hkind⟩ := hK
  have h0 : ¬ ((8 : Int32) < 0) := by decide
  have h8 : (8 : Int32).toNatClampNeg = 8 := by decide
  simp only [Op.multianewarray.make, h0, if_false, wp_bind', wp_pure', W.theClass, hk, Option.some.injEq, exists_eq_left', hkind, h8]
  refine W.newArray_of hk hkind (Nat.not_lt.mpr hL.1) (Nat.not_lt.mpr hL.2.1) hc hs rfl fun acts' => ?_
  have e1 : ({ cls := comp, slots := Array.replicate 8 (defaultValue .int) } : Cell) = gx_r comp := arrV_new _ _ _
  rw [e1]; exact hq acts'
/-- a row made, and put where it belongs -/
theorem gx_next {E : CtlPost} {e : Env} {d : Bool} {acts : List Action} {u : State} {cA comp : ClassId} {n : Nat} (hn : n < 4) {Q : ForInStep PUnit → Pre} (hK : gx_K u.vm cA comp) (hL : gx_L e) (hc : u.heap.size + 5 ≤ e.platform.maxCells) (hs : u.slotsUsed + 36 ≤ e.platform.maxSlots)
    (hq : ∀ d' acts', Q (.yield PUnit.unit) d' acts' (gx_W cA comp u (n + 1))) : wp (Op.multianewarray.make comp [8]) (fun r => wp (Jvm.writeLoc u.heap.size n (.ref r) >>= fun _ => Pure.pure (ForInStep.yield PUnit.unit)) Q E e) E e d acts (gx_W cA comp u n) := by
  refine gx_row (cA := cA) (by rw [gx_W_vm]; exact hK) hL (by rw [gx_W_size]; omega) (by rw [gx_W_used]; omega) fun acts' => ?_
  rw [wp_bind', W.writeLoc]
  obtain ⟨⟨k, hk, hkind⟩, -⟩ := hK
  have hold : ((gx_W cA comp u n).pushCell (gx_r comp)).heap[u.heap.size]? = some (gx_t cA u.heap.size n) :=
    (gx_add_old (gx_r comp) 1 (gx_W cA comp u n) (by rw [gx_W_size]; omega)).trans (gx_W_at cA comp u n)
  refine ⟨gx_t cA u.heap.size n, hold, (fun h => by cases h), (by rw [gx_t_sz]; exact hn), ?_, ?_⟩
  · have hv : ((gx_W cA comp u n).pushCell (gx_r comp)).vm.classes[cA]? = some k := by
      show (gx_W cA comp u n).vm.classes[cA]? = some k
      rw [gx_W_vm]; exact hk
    show ((gx_W cA comp u n).pushCell (gx_r comp)).fitsSlot cA .none n _ = true
    have ht : ((gx_W cA comp u n).pushCell (gx_r comp)).slotType? cA .none n = some (.array .int) := by
      unfold State.slotType?
      rw [hv]
      show (match k.kind with | .array _ type => some type | _ => k.instanceTypes[n]?) = some (.array .int)
      rw [hkind]
    unfold State.fitsSlot
    rw [ht]; rfl
  · rw [gx_W_next, wp_pure']; exact hq _ _
/-- the whole table -/
theorem gx_make {E : CtlPost} {e : Env} {d : Bool} {acts : List Action} {u : State} {cA comp : ClassId} {Q : Addr → Pre} (hK : gx_K u.vm cA comp) (hL : gx_L e) (hc : u.heap.size + 5 ≤ e.platform.maxCells) (hs : u.slotsUsed + 36 ≤ e.platform.maxSlots)
    (hq : ∀ d' acts', Q u.heap.size d' acts' (gx_W cA comp u 4)) : wp (Op.multianewarray.make cA [4, 8]) Q E e d acts u := by
  obtain ⟨k, hk, hkind⟩ := hK.1
  have h0 : ¬ ((4 : Int32) < 0) := by decide
  have h4 : (4 : Int32).toNatClampNeg = 4 := by decide
  have hz : ¬ (((4 : Int32) == 0) = true) := by decide
  rw [Op.multianewarray.make]
  simp only [h0, hz, if_false, wp_bind', wp_pure', W.theClass, hk, Option.some.injEq, exists_eq_left', hkind, h4]
  refine W.newArray_of hk hkind (by have := hL.1; omega) (Nat.not_lt.mpr hL.2.2) (by omega) (by omega) rfl fun acts' => ?_
  have e0 : ({ cls := cA, slots := Array.replicate 4 .null } : Cell) = gx_t cA u.heap.size 0 := arrV_new _ _ _
  rw [e0, Std.Legacy.Range.forIn_eq_forIn_range']
  have hl : List.range' (0 : Nat) 4 1 = [0, 1, 2, 3] := rfl
  simp only [Std.Legacy.Range.size, hl, Bool.false_eq_true, if_false, List.forIn_cons, List.forIn_nil, wp_bind']
  refine gx_next (n := 0) (by decide) hK hL hc hs fun d1 acts1 => ?_
  simp only [wp_bind']
  refine gx_next (n := 1) (by decide) hK hL hc hs fun d2 acts2 => ?_
  simp only [wp_bind']
  refine gx_next (n := 2) (by decide) hK hL hc hs fun d3 acts3 => ?_
  simp only [wp_bind']
  refine gx_next (n := 3) (by decide) hK hL hc hs fun d4 acts4 => ?_
  exact hq d4 acts4
theorem gx_W_top (cA comp : ClassId) (u : State) (n : Nat) (f : JFrame) : gx_W cA comp (u.setTop f) n = (gx_W cA comp u n).setTop f := by
  show gx_add (gx_r comp) n ((u.pushCell (gx_t cA u.heap.size n)).setTop f) = _
  exact gx_add_top _ n _ f
/-- the instruction: the class's entry links, both counts come off the stack, the table's reference goes onto it -/
theorem gx_sem {Q : Unit → Pre} {E : CtlPost} {e : Env} {d : Bool} {acts : List Action} {T : State} {f : JFrame} {vm1 : Vm} {index : Nat} {cA comp : ClassId} {rest : List Value} (hs : T.topJava?.isSome)
    (hg : (Jvm.resolveClass f.method.cls index).Gives e.toSetting T.vm (.ok cA) vm1) (hsz : vm1.classes.size ≤ T.vm.classes.size) (hst : f.stack = .int 8 :: .int 4 :: rest) (hK : gx_K vm1 cA comp) (hL : gx_L e) (hc : T.heap.size + 5 ≤ e.platform.maxCells) (hu : T.slotsUsed + 36 ≤ e.platform.maxSlots)
    (hq : ∀ d' acts', Q () d' acts' ((gx_W cA comp (T.setVm vm1) 4).setTop { f with stack := .ref T.heap.size :: rest })) : wp (Op.multianewarray.sem index 2) Q E e d acts (T.setTop f) := by
  have hs1 : (T.setVm vm1).topJava?.isSome := hs
  unfold Op.multianewarray.sem
  rw [wp_bind', W.resolveClassAt_links (t := T.setTop f) (State.method?_setTop f hs) hg hsz]
  have hp : ∀ a : JFrame, ((T.setVm vm1).setTop a).topJava? = some a := fun a => State.topJava?_setTop' a hs1
  show wp _ Q E e d acts ((T.setVm vm1).setTop f)
  simp only [Jvm.popN, wp_bind', wp_pure', W.pop]
  refine ⟨f, hp f, .int 8, .int 4 :: rest, hst, ?_⟩
  rw [State.setTop_setTop]
  refine ⟨_, hp _, .int 4, rest, rfl, ?_⟩
  rw [State.setTop_setTop]
  simp only [List.nil_append, List.cons_append, List.mapM_cons, List.mapM_nil, wp_bind', wp_pure']
  refine gx_make hK hL hc hu fun d1 acts1 => ?_
  simp only [wp_bind', W.mark, W.pushRef]
  rw [gx_W_top]
  refine ⟨_, State.topJava?_setTop' _ ?_, ?_⟩
  · exact hs1
  · rw [State.setTop_setTop]; exact hq _ _
/-- what the tables say, when the entry has been linked -/
theorem gx_links {p : Program} {l : Launch} {e : Env} {R : Room} {s : State} {m : MethodId} {args : Array Value} {below : List Frame} {meth : Method} {c : Code} {T : State} {locs : List Loc} {cells slots : Nat} (X : Stand p l e R s m args below meth c T locs cells slots)
    {own : String} {index : Nat} (hown : s.vm.findClass own = some m.cls) (h1 : (Cond.classLink own index "[[I").before args s = true) (h2 : (Cond.arrayOver (.array .int)).before args s = true) (h3 : (Cond.arrayClass .int).before args s = true) :
    ∃ (vm1 : Vm) (cA comp : ClassId), s.WarmedH vm1 ∧ (Jvm.resolveClass m.cls index).Gives e.toSetting T.vm (.ok cA) vm1 ∧ vm1.classes.size ≤ T.vm.classes.size ∧ s.vm.findClass "[[I" = some cA ∧ s.vm.findClass "[I" = some comp ∧ gx_K vm1 cA comp := by
  obtain ⟨cA, hA, hl⟩ := Cond.classLink_spec hown h1 e.platform ((congrArg Platform.magicAccessors (Launch.admits.platform X.admits)).trans rfl)
  obtain ⟨comp, cO, kO, hC, -, hO, hkO, hnO⟩ := arrayOverA_spec h2
  obtain ⟨cI, kI, b, hI, hkI, hkindI⟩ := Cond.arrayClass_spec h3
  have e1 : cO = cA := Option.some.inj (hnO.symm.trans hA)
  have e2 : cI = comp := Option.some.inj (hI.symm.trans hC)
  subst e1; subst e2
  obtain ⟨hg, hW, -⟩ := State.classEntry (e := e) X.warmed hl
  obtain ⟨a, ha, ea⟩ := hW.alike.2.2 _ _ hO
  obtain ⟨b', hb, eb⟩ := hW.alike.2.2 _ _ hkI
  exact ⟨_, _, _, hW, hg, Nat.le_of_eq (Vm.size_note _ _ _ _), hA, hC, ⟨a, ha, by rw [ea]; exact hkO⟩, b', b, hb, by rw [eb]; exact hkindI⟩
/-- pushes of cells leave the walk where it is -/
theorem gx_stand {p : Program} {l : Launch} {e : Env} {R : Room} {s : State} {m : MethodId} {args : Array Value} {below : List Frame} {meth : Method} {c : Code} {U : State} {locs : List Loc} {a b : Nat} (X : Stand p l e R s m args below meth c U locs a b) (row : Cell) :
    ∀ n : Nat, Stand p l e R s m args below meth c (gx_add row n U) locs (a + n) (b + n * row.slots.size)
  | 0 => by rw [Nat.zero_mul]; exact X
  | n + 1 => by
    rw [Nat.succ_mul, ← Nat.add_assoc b]
    exact (gx_stand X row n).pushed row
theorem am_ML_ok : am_ML := by
  intro p l e R s m args below meth c T locs cells slots X hexec own index hown h1 h2 h3 g hg hd rest hst hcells hslots
  subst hg
  obtain ⟨vm1, cA, comp, hW, hgv, hsz, hA, hC, hK⟩ := gx_links X hown h1 h2 h3
  obtain ⟨r1, r2⟩ := X.roomAbove hcells hslots
  have hL : gx_L e := by
    refine ⟨?_, ?_, ?_⟩
    · rw [Launch.admits_arrayLengthLimit X.admits]; decide
    · rw [Launch.admits_maxHeapBytes X.admits]; decide
    · rw [Launch.admits_maxHeapBytes X.admits]; decide
  refine ⟨gx_W cA comp (T.setVm vm1) 4, cA, comp, hA, hC, gx_W_size _ _ _ _, ?_, ?_, ?_, ?_, ?_⟩
  · intro q hq
    refine (gx_add_old _ _ _ ?_).trans ?_
    · show q < (T.heap.push _).size
      rw [Array.size_push]; omega
    · show (T.heap.push _)[q]? = _
      rw [Array.getElem?_push, if_neg (by omega)]
  · exact gx_W_at cA comp (T.setVm vm1) 4
  · intro j hj
    have h := gx_add_new (gx_r comp) 4 ((T.setVm vm1).pushCell (gx_t cA T.heap.size 4)) hj
    have hsz1 : ((T.setVm vm1).pushCell (gx_t cA T.heap.size 4)).heap.size = T.heap.size + 1 := Array.size_push ..
    rw [hsz1] at h
    exact h
  · have h := gx_stand ((X.noted hW).pushed (gx_t cA T.heap.size 4)) (gx_r comp) 4
    rw [gx_t_sz, gx_r_sz] at h
    exact h
  · intro target ht
    refine Steps.instr (c := c) (by simpa using X.here) ?_
    rw [hd]
    show wpRun (p.tables.exec (.multianewarray index 2)) _ _ e (T.setTop g)
    rw [hexec]
    refine gx_sem X.here.top hgv hsz hst hK hL r1 r2 fun d' acts' acts2 => ?_
    rw [afterInstr_ok]
    exact ht
end
