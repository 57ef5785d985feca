/-! the start: what doesn't change (am_env), what room's throw needs (am_ex) -/
theorem st_T {args : Array Value} {s : State} {tm : Term} {ty : FieldType} {vs : List Int32} {A : Nat → Prop} (hw : ∀ w ∈ sa_ws tm ty vs, w.before args s = true) (hN : vs.length < 2 ^ 31) (hA : ∀ a : Nat, a < s.heap.size → ¬ A a) : ∃ t : Nat, tm.eval args s none [] s = some (.ref t) ∧ va_T ty t vs.length (fun j => .int (vs.getD j 0)) A s s.heap :=
  va_Tof hN (hw _ List.mem_cons_self) (va_eqt (hw _ (List.mem_cons_of_mem _ List.mem_cons_self))) (fun j hj => va_eqt (hw _ (List.mem_cons_of_mem _ (List.mem_cons_of_mem _ (List.mem_map.mpr ⟨j, List.mem_range.mpr hj, rfl⟩))))) hA
theorem st_X {args : Array Value} {s : State} {t : Term} {vs : List Int32} {A : Nat → Prop} (hw : ∀ w ∈ tx_ws t vs, w.before args s = true) (hN : vs.length < 2 ^ 31) (hA : ∀ a : Nat, a < s.heap.size → ¬ A a) : ∃ q : Nat × Nat, t.eval args s none [] s = some (.ref q.1) ∧ va_O "java/lang/String" q.1 A s s.heap ∧ va_OF "java/lang/String" "coder" "B" (.int 0) q.1 A s s.heap ∧ va_OF "java/lang/String" "value" "[B" (.ref q.2) q.1 A s s.heap ∧ va_T .byte q.2 vs.length (fun j => .int (vs.getD j 0)) A s s.heap := by
  have h0 := hw _ List.mem_cons_self
  have h1 := hw _ (List.mem_cons_of_mem _ List.mem_cons_self)
  obtain ⟨a, c, cA, kA, q1, -⟩ := Cond.exactly_spec (args := args) (first := s) (o := none) (s := s) (idx := []) (t := t) (cls := "java/lang/String") h0
  obtain ⟨v, hv, hT⟩ := st_T (tm := .field t "java/lang/String" "value" "[B") (fun w h => hw w (List.mem_cons_of_mem _ (List.mem_cons_of_mem _ h))) hN hA
  exact ⟨(a, v), q1, va_Oof h0 q1 hA, vk_OFof q1 (va_eqt h1) hA, vk_OFof q1 hv hA, hT⟩
theorem st_eqR {args : Array Value} {s : State} {t u : Term} {a : Nat} (h : (Cond.eq t u).before args s = true) (ht : t.eval args s none [] s = some (.ref a)) : u.eval args s none [] s = some (.ref a) := by
  cases hv : u.eval args s none [] s with
  | none => simp [Cond.before, Cond.holds, Cond.value, ht, hv] at h
  | some w =>
    simp only [Cond.before, Cond.holds, Cond.value, ht, hv] at h
    cases w <;> simp_all
def st_val (tS kS vS : Nat → Nat) (b : Nat) (v7 : Value) : Nat → Value := fun a => if a = 7000 then v7 else if a = 6000 then .ref b else if 5200 ≤ a ∧ a < 5204 then .ref (vS (a - 5200)) else if 5100 ≤ a ∧ a < 5104 then .ref (kS (a - 5100)) else if 5000 ≤ a ∧ a < 5007 then .ref (tS (a - 5000)) else .null
def st_int (xs : Nat → Int32) : Nat → Nat → Int32 := fun a j => if a = 6000 then xs j else if 5200 ≤ a ∧ a < 5204 then (tx_v.getD (a - 5200) []).getD j 0 else if 5000 ≤ a ∧ a < 5007 then (sa_v.getD (a - 5000) []).getD j 0 else 0
theorem st_gap {a : Nat} (h : (5007 ≤ a ∧ a < 5100) ∨ (5104 ≤ a ∧ a < 5200) ∨ 5204 ≤ a) : x_s0 a = (0, 0) := by
  rcases h with ⟨h1, h2⟩ | ⟨h1, h2⟩ | h1
  · have hb : ∀ n, n ≤ 5007 → Nat.ble n a = true := fun n hn => Nat.ble_eq_true_of_le (by omega)
    have hb2 : ∀ n, 5100 ≤ n → Nat.ble n a = false := fun n hn => Bool.eq_false_iff.mpr (fun e => absurd (Nat.le_of_ble_eq_true e) (by omega))
    have he : ∀ n, n ≤ 5006 → Nat.beq a n = false := fun n hn => x_nbeq (by omega)
    unfold x_s0
    simp only [hb, hb2, he, cond_true, cond_false, Nat.reduceLeDiff]
  · have hb : ∀ n, n ≤ 5104 → Nat.ble n a = true := fun n hn => Nat.ble_eq_true_of_le (by omega)
    have hb2 : ∀ n, 5200 ≤ n → Nat.ble n a = false := fun n hn => Bool.eq_false_iff.mpr (fun e => absurd (Nat.le_of_ble_eq_true e) (by omega))
    have he : ∀ n, n ≤ 5103 → Nat.beq a n = false := fun n hn => x_nbeq (by omega)
    unfold x_s0
    simp only [hb, hb2, he, cond_true, cond_false, Nat.reduceLeDiff]
  · have hb : ∀ n, n ≤ 5204 → Nat.ble n a = true := fun n hn => Nat.ble_eq_true_of_le (by omega)
    have he : ∀ n, n ≤ 5203 → Nat.beq a n = false := fun n hn => x_nbeq (by omega)
    unfold x_s0
    simp only [hb, he, cond_true, cond_false, Nat.reduceLeDiff]
theorem st_s5 : ∀ i, i < 7 → x_s0 (5000 + i) = (200, (sa_v.getD i []).length) := by decide +kernel
theorem st_s1 : ∀ i, i < 4 → x_s0 (5100 + i) = (90, 2) := by decide +kernel
theorem st_s2 : ∀ i, i < 4 → x_s0 (5200 + i) = (202, (tx_v.getD i []).length) := by decide +kernel
theorem st_len5 : ∀ i, i < 7 → (sa_v.getD i []).length < 2 ^ 31 := by decide +kernel
theorem st_len1 : ∀ i, i < 4 → (tx_v.getD i []).length < 2 ^ 31 := by decide +kernel
theorem st_r0 {a k : Nat} (h : 5000 ≤ a) : x_r0 a k = am_roR a k := by
  unfold am_roR
  by_cases h1 : 5100 ≤ a ∧ a < 5104
  · rcases (show a = 5100 ∨ a = 5101 ∨ a = 5102 ∨ a = 5103 by omega) with e | e | e | e <;> subst e <;> cases k with
    | zero => rfl
    | succ k => rw [if_neg (by omega)]; rfl
  · rw [if_neg (by omega)]
    rcases Nat.lt_or_ge a 5100 with g | g
    · have hb : ∀ n, n ≤ 5000 → Nat.ble n a = true := fun n hn => Nat.ble_eq_true_of_le (by omega)
      have hb2 : ∀ n, 5100 ≤ n → Nat.ble n a = false := fun n hn => Bool.eq_false_iff.mpr (fun e => absurd (Nat.le_of_ble_eq_true e) (by omega))
      have he : Nat.beq a 179 = false := x_nbeq (by omega)
      unfold x_r0
      simp only [hb, hb2, he, cond_true, cond_false, Nat.reduceLeDiff]
    · have hb : ∀ n, n ≤ 5104 → Nat.ble n a = true := fun n hn => Nat.ble_eq_true_of_le (by omega)
      have he : Nat.beq a 5103 = false := x_nbeq (by omega)
      unfold x_r0
      simp only [hb, he, cond_true, cond_false, Nat.reduceLeDiff]
theorem st_cls {args : Array Value} {s : State} (hts : ∀ w ∈ lw_tbl, w.before args s = true) : ∃ D : va_G, ∀ (k : Nat) (q : vw_C), am_cls[k]? = some q → u_Kn s q.1 q.2.1 q.2.2 (D.1 k) (D.2 k) := by
  have hg : ∀ w ∈ lw_g, w ∈ lw_tbl := fun w hw => (List.mem_filter.mp hw).1
  have h0 : ∀ k : Nat, ∃ q : ClassId × (Nat → Nat), ∀ r : vw_C, am_cls[k]? = some r → u_Kn s r.1 r.2.1 r.2.2 q.1 q.2 := by
    intro k
    cases hk : am_cls[k]? with
    | none => exact ⟨(0, fun _ => 0), fun r h => by cases h⟩
    | some r =>
      have hm := List.mem_of_getElem? hk
      obtain ⟨cC, iS, h⟩ := u_known (C := r.1) (T := r.2.1) (N := r.2.2) (n := r.2.2) hts (fun w hw => hg w (am_cls_in w (List.mem_flatMap.mpr ⟨r, hm, hw⟩))) (hts _ (hg _ (am_ins_in _ (List.mem_map.mpr ⟨r, hm, rfl⟩))))
      exact ⟨(cC, iS), fun r' h' => by cases h'; exact h⟩
  obtain ⟨f, hf⟩ := Classical.axiomOfChoice h0
  exact ⟨(fun k => (f k).1, fun k => (f k).2), fun k q h => hf k q h⟩
theorem st_arrP {s : State} {c comp : ClassId} {k : Class} {ty : FieldType} (h2 : s.vm.classes[c]? = some k) (h3 : k.kind = .array comp ty) : ArrOfT s c ty := fun n z => ⟨fun x => by simp [arrV], k, h2, comp, h3⟩
theorem st_tys {args : Array Value} {s : State} (hts : ∀ w ∈ lw_tbl, w.before args s = true) : ∃ f : Nat → ClassId, (ArrOfT s (f 100) .int ∧ va_RA s (f 100) .int) ∧ (ArrOfT s (f 101) .long ∧ va_RA s (f 101) .long) ∧ (ArrOfT s (f 102) .byte ∧ va_RA s (f 102) .byte) ∧ (ArrOfT s (f 103) .boolean ∧ va_RA s (f 103) .boolean) ∧ (ArrOfT s (f 104) (.object "TeaTrolley$Law") ∧ va_RA s (f 104) (.object "TeaTrolley$Law")) ∧ (ArrOfT s (f 105) (.object "TeaTrolley$State") ∧ va_RA s (f 105) (.object "TeaTrolley$State")) ∧ (ArrOfT s (f 106) (.array .int) ∧ va_RA s (f 106) (.array .int)) := by
  obtain ⟨c0, k0, p0, a0, b0, d0⟩ := Cond.arrayClass_spec (st_w hts 29 (w := .arrayClass .int) rfl)
  obtain ⟨c1, k1, p1, a1, b1, d1⟩ := Cond.arrayClass_spec (st_w hts 30 (w := .arrayClass .long) rfl)
  obtain ⟨c2, k2, p2, a2, b2, d2⟩ := Cond.arrayClass_spec (st_w hts 31 (w := .arrayClass .byte) rfl)
  obtain ⟨c3, k3, p3, a3, b3, d3⟩ := Cond.arrayClass_spec (st_w hts 32 (w := .arrayClass .boolean) rfl)
  obtain ⟨p4, c4, k4, a4, -, b4, d4, e4⟩ := Cond.arrayOver_spec (st_w hts 27 (w := .arrayOver (.object "TeaTrolley$Law")) rfl)
  obtain ⟨p5, c5, k5, a5, -, b5, d5, e5⟩ := Cond.arrayOver_spec (st_w hts 28 (w := .arrayOver (.object "TeaTrolley$State")) rfl)
  obtain ⟨p6, c6, k6, a6, -, b6, d6, e6⟩ := arrayOverA_spec (st_w hts 26 (w := .arrayOver (.array .int)) rfl)
  exact ⟨fun n => if n = 100 then c0 else if n = 101 then c1 else if n = 102 then c2 else if n = 103 then c3 else if n = 104 then c4 else if n = 105 then c5 else c6, ⟨st_arrP b0 d0, a0⟩, ⟨st_arrP b1 d1, a1⟩, ⟨st_arrP b2 d2, a2⟩, ⟨st_arrP b3 d3, a3⟩, ⟨st_arrP b4 d4, k4, p4, b4, d4, a4, e4⟩, ⟨st_arrP b5 d5, k5, p5, b5, d5, a5, e5⟩, ⟨st_arrP b6 d6, e6⟩⟩
