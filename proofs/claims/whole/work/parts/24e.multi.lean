/-! a new table of four rows of eight ints, step by step over the library's words (no law of Shelf42 is used) -/
def ml_C (c : ClassId) (h i : Nat) : Cell := arrV c 4 (fun j => if j < i then .ref (h + 1 + j) else .null)
def ml_I (c : ClassId) : Cell := arrV c 8 (fun _ => .int 0)
/-- the state with the outer row and the first i inner ones -/
def ml_f (T : State) (c d : ClassId) : Nat → State
  | 0 => T.pushCell (ml_C c T.heap.size 0)
  | i + 1 => ((ml_f T c d i).pushCell (ml_I d)).setCell T.heap.size (ml_C c T.heap.size (i + 1))
theorem ml_C_set (c : ClassId) (h i : Nat) (hi : i < 4) : (ml_C c h i).setSlot i (.ref (h + 1 + i)) = ml_C c h (i + 1) := by
  unfold ml_C
  rw [arrV_store]
  congr 1
  funext j
  unfold updV
  by_cases e : j = i
  · rw [if_pos e, if_pos (by omega), e]
  · rw [if_neg e]
    dsimp only
    by_cases g : j < i
    · rw [if_pos g, if_pos (by omega)]
    · rw [if_neg g, if_neg (by omega)]
theorem ml_sz (c : ClassId) (h i : Nat) : (ml_C c h i).slots.size = 4 := arrV_size _ _ _
theorem ml_Isz (c : ClassId) : (ml_I c).slots.size = 8 := arrV_size _ _ _
theorem ml_I_eq (c : ClassId) : ({ cls := c, slots := Array.replicate 8 (.int 0) } : Cell) = ml_I c := rfl
theorem ml_C_eq (c : ClassId) (h : Nat) : ({ cls := c, slots := Array.replicate 4 .null } : Cell) = ml_C c h 0 := by
  unfold ml_C
  simp only [Nat.not_lt_zero, if_false]
  rfl
theorem ml_facts (T : State) (c d : ClassId) : ∀ i, (ml_f T c d i).heap.size = T.heap.size + 1 + i ∧ (ml_f T c d i).heap[T.heap.size]? = some (ml_C c T.heap.size i) ∧ (ml_f T c d i).vm = T.vm ∧ (ml_f T c d i).slotsUsed = T.slotsUsed + 4 + 8 * i ∧ (∀ q : Nat, q < T.heap.size → (ml_f T c d i).heap[q]? = T.heap[q]?) ∧ ∀ j : Nat, j < i → (ml_f T c d i).heap[T.heap.size + 1 + j]? = some (ml_I d) := by
  intro i
  induction i with
  | zero => exact ⟨by simp [ml_f], by simp [ml_f], rfl, by simp [ml_f, ml_sz], fun q hq => State.heap_pushCell_of_lt _ _ hq, fun j hj => absurd hj (Nat.not_lt_zero _)⟩
  | succ i ih =>
    obtain ⟨a1, a2, a3, a4, a5, a6⟩ := ih
    have hlt : T.heap.size < (ml_f T c d i).heap.size := by omega
    have b2 : ((ml_f T c d i).pushCell (ml_I d)).heap[T.heap.size]? = some (ml_C c T.heap.size i) := by rw [State.heap_pushCell_of_lt (h := hlt)]; exact a2
    refine ⟨?_, State.heap_setCell_self b2, a3, ?_, fun q hq => ?_, fun j hj => ?_⟩
    · simp [ml_f, State.setCell, a1]; omega
    · simp [ml_f, a4, ml_Isz]; omega
    · show (((ml_f T c d i).pushCell (ml_I d)).setCell T.heap.size _).heap[q]? = _
      rw [State.heap_setCell_other (Nat.ne_of_gt hq), State.heap_pushCell_of_lt (h := show q < (ml_f T c d i).heap.size by omega)]
      exact a5 q hq
    · show (((ml_f T c d i).pushCell (ml_I d)).setCell T.heap.size _).heap[T.heap.size + 1 + j]? = _
      rw [State.heap_setCell_other (show T.heap.size ≠ T.heap.size + 1 + j by omega)]
      rcases Nat.lt_or_ge j i with g | g
      · rw [State.heap_pushCell_of_lt (h := show T.heap.size + 1 + j < (ml_f T c d i).heap.size by omega)]
        exact a6 j g
      · have e : j = i := by omega
        subst e
        rw [← a1]
        exact State.heap_pushCell_size _ _
theorem ml_top (T : State) (g : JFrame) (c d : ClassId) : ∀ i, ml_f (T.setTop g) c d i = (ml_f T c d i).setTop g := by
  intro i
  induction i with
  | zero => rfl
  | succ i ih => simp only [ml_f, ih, State.heap_setTop, State.pushCell_setTop, State.setCell_setTop]
section ML
variable {p : Program} {l : Launch} {e : Env} {R : Room} {s : State} {m : MethodId} {args : Array Value} {below : List Frame} {meth : Method} {c : Code} {T : State} {locs : List Loc} {cells slots : Nat}
theorem ml_stand (X : Stand p l e R s m args below meth c T locs cells slots) (cA comp : ClassId) : ∀ i, i ≤ 4 → ∃ J : List Loc, (∀ x ∈ J, x.base = T.heap.size) ∧ Stand p l e R s m args below meth c (ml_f T cA comp i) (locs ++ J) (cells + 1 + i) (slots + 4 + 8 * i) := by
  intro i
  induction i with
  | zero =>
    intro _
    refine ⟨[], fun x hx => (by cases hx), ?_⟩
    have h := X.pushed (ml_C cA T.heap.size 0)
    rw [ml_sz] at h
    rw [List.append_nil]
    exact h
  | succ i ih =>
    intro hi
    obtain ⟨J, hJ, Xi⟩ := ih (by omega)
    obtain ⟨f1, f2, -, -, -, -⟩ := ml_facts T cA comp i
    have hc : ((ml_f T cA comp i).pushCell (ml_I comp)).heap[T.heap.size]? = some (ml_C cA T.heap.size i) := by rw [State.heap_pushCell_of_lt (h := show T.heap.size < (ml_f T cA comp i).heap.size by omega)]; exact f2
    have h := (Xi.pushed (ml_I comp)).stored hc i (.ref (T.heap.size + 1 + i))
    rw [ml_C_set _ _ _ (by omega), ml_Isz, List.append_assoc] at h
    refine ⟨J ++ [⟨T.heap.size, i⟩], fun x hx => ?_, ?_⟩
    · rcases List.mem_append.mp hx with g | g
      · exact hJ x g
      · cases List.mem_singleton.mp g; rfl
    · rw [show slots + 4 + 8 * (i + 1) = slots + 4 + 8 * i + 8 by omega]
      exact h
end ML
section ML2
variable {E : CtlPost} {e : Env} {d : Bool} {acts : List Action} {s : State}
theorem ml_row {comp cc : ClassId} {kc : Class} (hk : s.vm.classes[comp]? = some kc) (hkind : kc.kind = .array cc .int) (hl : ¬ 8 > e.platform.arrayLengthLimit) (hh : ¬ 8 * componentBytes .int > e.platform.maxHeapBytes) (h1 : s.heap.size < e.platform.maxCells) (h2 : s.slotsUsed + 8 ≤ e.platform.maxSlots) {Q : Addr → Pre} (hq : ∀ acts', Q s.heap.size d acts' (s.pushCell (ml_I comp))) : wp (multianewarray.make comp [8]) Q E e d acts s := by
  have h8 : ¬ ((8 : Int32) < 0) := by decide
  rw [multianewarray.make]
  simp only [wp_bind', W.ite, h8, if_false, wp_pure', W.theClass, hk, hkind, Option.some.injEq, exists_eq_left']
  exact W.newArray_of (howMany := 8) (init := .int 0) hk hkind hl hh h1 h2 rfl hq
theorem ml_table {cA comp cc : ClassId} {k kc : Class} (hk : s.vm.classes[cA]? = some k) (hkind : k.kind = .array comp (.array .int)) (hkc : s.vm.classes[comp]? = some kc) (hkindc : kc.kind = .array cc .int) (hl : ¬ 8 > e.platform.arrayLengthLimit) (hh : ¬ 8 * componentBytes .int > e.platform.maxHeapBytes) (hh4 : ¬ 4 * componentBytes (.array .int) > e.platform.maxHeapBytes)
    (h1 : s.heap.size + 5 ≤ e.platform.maxCells) (h2 : s.slotsUsed + 36 ≤ e.platform.maxSlots) {Q : Addr → Pre} (hq : ∀ d' acts', Q s.heap.size d' acts' (ml_f s cA comp 4)) : wp (multianewarray.make cA [4, 8]) Q E e d acts s := by
  have n4 : ¬ ((4 : Int32) < 0) := by decide
  have hfind : ([(8 : Int32)].find? (· < 0)) = none := by decide
  rw [multianewarray.make]
  simp only [wp_bind', W.ite, n4, if_false, wp_pure', W.theClass, hk, hkind, Option.some.injEq, exists_eq_left']
  refine W.newArray_of (howMany := 4) (init := .null) hk hkind (by omega) hh4 (by omega) (by omega) rfl (fun acts' => ?_)
  rw [ml_C_eq cA s.heap.size]
  simp only [hfind]
  rw [ite_self, wp_bind', Std.Legacy.Range.forIn_eq_forIn_range']
  have hsz : ([:Int32.toNatClampNeg 4] : Std.Legacy.Range).size = 4 := by decide
  rw [hsz]
  show wp (forIn (List.range' 0 4 1) PUnit.unit _) _ E e d acts' _
  refine wp_forIn_inv (fun rest s' => ∃ i, i ≤ 4 ∧ rest = List.range' i (4 - i) ∧ s' = ml_f s cA comp i) _ _ ⟨0, Nat.zero_le _, rfl, rfl⟩ ?_ ?_
  · rintro x rest s' d' acts' Q' ⟨i, hi, hl2, rfl⟩ hnext
    have hi4 : i < 4 := by
      rcases Nat.lt_or_ge i 4 with g | g
      · exact g
      · rw [show 4 - i = 0 by omega] at hl2; cases hl2
    rw [show 4 - i = (4 - (i + 1)) + 1 by omega, List.range'_succ] at hl2
    obtain ⟨rfl, rfl⟩ := List.cons.inj hl2
    obtain ⟨f1, f2, f3, f4, -, -⟩ := ml_facts s cA comp x
    simp only [wp_bind']
    refine ml_row (by rw [f3]; exact hkc) hkindc hl hh (by rw [f1]; omega) (by rw [f4]; omega) (fun acts2 => ?_)
    simp only [wp_bind', W.writeLoc, wp_pure']
    refine ⟨ml_C cA s.heap.size x, by rw [State.heap_pushCell_of_lt (h := show s.heap.size < (ml_f s cA comp x).heap.size by omega)]; exact f2, by simp [ml_C, arrV], by rw [ml_sz]; exact hi4, ?_, hnext _ _ _ ⟨x + 1, hi4, rfl, ?_⟩⟩
    · simp [State.fitsSlot, State.slotType?, f3, ml_C, arrV, hk, hkind, fits]
    · rw [f1, ml_C_set _ _ _ hi4]
      rfl
  · rintro s' d' acts2 ⟨i, hi, hl2, rfl⟩
    have hi4 : i = 4 := by
      rcases Nat.lt_or_ge i 4 with g | g
      · rw [show 4 - i = (4 - (i + 1)) + 1 by omega, List.range'_succ] at hl2; cases hl2
      · omega
    subst hi4
    simp only [wp_pure']
    exact hq _ _
end ML2
theorem am_ML_ok : am_ML := by
  intro p l e R s m args below meth c T locs cells slots X hexec own index hown hclink hover harr g hg hdg rest hstack hcells hslots
  subst hg
  have hpl : e.platform.magicAccessors = ({} : Platform).magicAccessors := by rw [X.admits.platform]
  obtain ⟨comp, cA, kA, hcomp, -, hkA, hkindA, hnameA⟩ := arrayOverA_spec hover
  obtain ⟨comp', kC, cc, hcomp', hkC, hkindC⟩ := Cond.arrayClass_spec harr
  have ecomp : comp' = comp := Option.some.inj (hcomp'.symm.trans hcomp)
  subst ecomp
  obtain ⟨c0, hfc0, hcl⟩ := Cond.classLink_spec hown hclink e.platform hpl
  have e0 : cA = c0 := Option.some.inj (hnameA.symm.trans hfc0)
  subst e0
  obtain ⟨hg₁, hwarm₁, hready₁⟩ := State.classEntry (e := e) X.warmed hcl
  generalize T.vm.noted g.method.cls index (.cls cA) = vm₁ at hg₁ hwarm₁ hready₁
  have hal : s.vm.Alike vm₁ := hwarm₁.alike
  obtain ⟨kA₁, hkA₁, heA⟩ := hal.2.2 _ _ hkA
  obtain ⟨kC₁, hkC₁, heC⟩ := hal.2.2 _ _ hkC
  have hkindA₁ : kA₁.kind = .array comp' (.array .int) := by rw [heA]; exact hkindA
  have hkindC₁ : kC₁.kind = .array cc .int := by rw [heC]; exact hkindC
  have X₁ := X.noted hwarm₁
  obtain ⟨hr1, hr2⟩ := X.roomAbove hcells hslots
  obtain ⟨J, hJ, XJ⟩ := ml_stand X₁ cA comp' 4 (Nat.le_refl _)
  have XF : Stand p l e R s g.method args below meth c (ml_f (T.setVm vm₁) cA comp' 4) locs (cells + 5) (slots + 36) := by
    have h := XJ.dropFresh (fun x hx => by rw [hJ x hx]; exact X.heapGrown)
    rw [show cells + 5 = cells + 1 + 4 by omega, show slots + 36 = slots + 4 + 8 * 4 by omega]
    exact h
  obtain ⟨f1, f2, f3, f4, f5, f6⟩ := ml_facts (T.setVm vm₁) cA comp' 4
  refine ⟨ml_f (T.setVm vm₁) cA comp' 4, cA, comp', hnameA, hcomp, f1, f5, f2, f6, XF, fun target hrest => ?_⟩
  have hl : ¬ 8 > e.platform.arrayLengthLimit := by rw [Launch.admits_arrayLengthLimit X.admits]; omega
  have hh : ¬ 8 * componentBytes .int > e.platform.maxHeapBytes := by rw [Launch.admits_maxHeapBytes X.admits]; decide
  have hh4 : ¬ 4 * componentBytes (.array .int) > e.platform.maxHeapBytes := by rw [Launch.admits_maxHeapBytes X.admits]; decide
  jvm_step X.here [hexec, hdg]
  simp only [multianewarray.sem, wp_bind', W.resolveClassAt_links (State.method?_setTop g X.here.top) hg₁]
  rw [W.popN, if_neg (by decide)]
  refine ⟨g, State.topJava?_setTop' (s := T.setVm vm₁) g X.here.top, [.int 4, .int 8], rest, rfl, hstack, ?_⟩
  simp only [List.mapM_cons, List.mapM_nil, wp_bind', wp_pure']
  refine ml_table hkA₁ hkindA₁ hkC₁ hkindC₁ hl hh hh4 (by show T.heap.size + 5 ≤ _; omega) (by show T.slotsUsed + 36 ≤ _; omega) (fun d' acts' => ?_)
  have eS : ((T.setTop g).setVm vm₁).setTop { g with stack := rest } = (T.setVm vm₁).setTop { g with stack := rest } := by
    show ((T.setVm vm₁).setTop g).setTop _ = _
    rw [State.setTop_setTop]
  rw [eS, ml_top]
  simp only [wp_bind', W.mark, W.pushRef, State.topJava?_setTop' _ XF.here.top, Option.some.injEq, exists_eq_left', State.setTop_setTop, State.heap_setTop]
  intro acts
  simp [jvm, XF.here.top]
  exact hrest
