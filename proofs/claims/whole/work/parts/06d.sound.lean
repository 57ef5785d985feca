theorem am_cls_get {ci : Nat} (h : ci < 13) : ∃ r, am_cls[ci]? = some r ∧ (∀ k, am_F ci k = r.2.1 k) ∧ am_nf ci = r.2.2 := by
  have hl : am_cls.length = 13 := rfl
  have h1 : ci < am_cls.length := by rw [hl]; exact h
  refine ⟨am_cls[ci], List.getElem?_eq_getElem h1, fun k => ?_, ?_⟩
  · unfold am_F
    rw [List.getD_eq_getElem?_getD, List.getElem?_eq_getElem h1]; rfl
  · unfold am_nf
    rw [List.getD_eq_getElem?_getD, List.getElem?_eq_getElem h1]; rfl
theorem am_cls_w {ci : Nat} {r : vw_C} (h : am_cls[ci]? = some r) : ∀ w ∈ u_ws r.1 r.2.1 r.2.2, w ∈ lw_g := fun w hw => am_cls_in w (List.mem_flatMap.mpr ⟨r, List.mem_of_getElem? h, hw⟩)
theorem am_cls_t {ci : Nat} {r : vw_C} (h : am_cls[ci]? = some r) : (∀ k, k < r.2.2 → parseFieldDescriptor (r.2.1 k).2.2.1 = some (am_ty ci k)) ∧ ∀ a, a < r.2.2 → ∀ b, b < r.2.2 → a ≠ b → (r.2.1 a).2.1 ≠ (r.2.1 b).2.1 := by
  match ci, h with
  | 0, h => cases h; exact ⟨tyX0_ok, nmX0⟩
  | 1, h => cases h; exact ⟨tyX1_ok, nmX1⟩
  | 2, h => cases h; exact ⟨tyX2_ok, nmX2⟩
  | 3, h => cases h; exact ⟨tyX3_ok, nmX3⟩
  | 4, h => cases h; exact ⟨tyX4_ok, nmX4⟩
  | 5, h => cases h; exact ⟨tyX5_ok, nmX5⟩
  | 6, h => cases h; exact ⟨tyX6_ok, nmX6⟩
  | 7, h => cases h; exact ⟨tyX7_ok, nmX7⟩
  | 8, h => cases h; exact ⟨tyX8_ok, nmX8⟩
  | 9, h => cases h; exact ⟨tyX9_ok, nmX9⟩
  | 10, h => cases h; exact ⟨tyX10_ok, nmX10⟩
  | 11, h => cases h; exact ⟨tyX11_ok, nmX11⟩
  | 12, h => cases h; exact ⟨tyX12_ok, nmX12⟩
  | n + 13, h => exact absurd h (by rw [List.getElem?_eq_none (by show 13 ≤ n + 13; omega)]; simp)
theorem am_tys0 : ∀ ci, ci < 13 → ∀ k, k < am_nf ci → am_kd (am_ty ci k) = 0 → am_ty ci k = .int := by decide +kernel
theorem am_tys1 : ∀ ci, ci < 13 → ∀ k, k < am_nf ci → am_kd (am_ty ci k) = 1 → am_ty ci k = .long := by decide +kernel
theorem am_tys3 : ∀ ci, ci < 13 → ∀ k, k < am_nf ci → am_kd (am_ty ci k) = 3 → am_ty ci k = .boolean := by decide +kernel
theorem am_tys2 {ty : FieldType} (h : am_kd ty = 2) : (∃ C, ty = .object C) ∨ ∃ t, ty = .array t := by
  cases ty with
  | object C => exact Or.inl ⟨C, rfl⟩
  | array t => exact Or.inr ⟨t, rfl⟩
  | _ => cases h
/-- an object among the cells -/
theorem am_obj {Γ : am_G} {w : am_W} {H : Heap} {U : State} {H' : Heap} (hr : am_rep Γ w H) (he : am_env Γ U H') {a ci : Nat} (hci : ci < 13) (h : (w.1 a).1 = ci + 1) :
    1 ≤ a ∧ a < w.2.2.2.2.1 ∧ a < 5000 ∧ (w.1 a).2 = am_nf ci ∧ (am_wl Γ w)[a - 1]? = some (Γ.2.2.1 + a, .inr (ci, am_fs Γ w ci a (am_nf ci))) := by
  obtain ⟨h1, h2⟩ := am_own (H := H) hr.1 he h (by omega) (by omega) (by omega) (by omega)
  have h3 : (w.1 a).2 = am_nf ci := by
    rcases hr.1.2.2.1 a h1 h2 with ⟨-, -, q⟩ | ⟨q, -⟩
    · rw [q, h]; rfl
    · omega
  refine ⟨h1, h2, by have := hr.1.2.1.2; omega, h3, ?_⟩
  rw [am_wl_get h1 h2]
  unfold am_cell
  rw [if_pos (by omega), h, h3]
  rfl
/-- an array among them -/
theorem am_arr {Γ : am_G} {w : am_W} {H : Heap} {U : State} {H' : Heap} (hr : am_rep Γ w H) (he : am_env Γ U H') {a kd : Nat} (h : (w.1 a).1 = kd) (h1 : 100 ≤ kd) (h2 : kd ≤ 106) :
    1 ≤ a ∧ a < w.2.2.2.2.1 ∧ a < 5000 ∧ (am_wl Γ w)[a - 1]? = some (Γ.2.2.1 + a, .inl (Γ.2.1 kd, (w.1 a).2, am_ar Γ w a)) := by
  obtain ⟨g1, g2⟩ := am_own (H := H) hr.1 he h (by omega) (by omega) (by omega) (by omega)
  refine ⟨g1, g2, by have := hr.1.2.1.2; omega, ?_⟩
  rw [am_wl_get g1 g2]
  unfold am_cell
  rw [if_neg (by omega), h]
theorem am_hsize {Γ : am_G} {w : am_W} {H : Heap} (hP : va_P Γ.1 am_cls (am_wl Γ w) H) (h1 : 2 ≤ w.2.2.2.2.1) : Γ.2.2.1 + w.2.2.2.2.1 ≤ H.size := by
  have := (hP _ _ (am_wl_get (Γ := Γ) (w := w) (a := w.2.2.2.2.1 - 1) (by omega) (by omega))).lt
  simp only at this
  omega
section AMP
variable {p : Program} {l : Launch} {e : Env} {R : Room} {s : State} {m : MethodId} {args : Array Value} {below : List Frame} {meth : Method} {c : Code} {H : Heap} {locs : List Loc} {cells slots : Nat} {Q : State → Prop}
variable {cc : ByteArray} {pc : Nat} {ls : Array Slot} {rest : List Value} {D : va_G} {cl : List vw_C} {A : Nat → Prop} {a : Nat} {tys : List (ClassId × FieldType)} {ws : va_W} {H0 : Heap}
/-- putfield, the heap's size told -/
theorem am_put (hexec : p.tables.exec = Jvm.exec) (hb : c.code = cc) {own C : String} {T : u_T} {N ci index : Nat} {Ts : List Cond} (hts : ∀ w ∈ Ts, w.before args s = true) (hin : ∀ w ∈ u_ws C T N, w ∈ Ts) (ty0 : Nat → FieldType) (hty : ∀ k, k < N → parseFieldDescriptor (T k).2.2.1 = some (ty0 k)) (hnm : ∀ a, a < N → ∀ b, b < N → a ≠ b → (T a).2.1 ≠ (T b).2.1) (hown : s.vm.findClass own = some m.cls) (hK : va_K D cl tys s) (hP : va_P D cl ws H) (hD : va_D A ws) (hS0 : va_S A H0 H locs) (q0 : Nat) {fs : List Value} (he : ws[q0]? = some (a, .inr (ci, fs))) (hc : cl[ci]? = some (C, T, N)) (k : Nat) (hk : k < N) (hlink : (Cond.fieldLink own index (T k).1 (T k).2.1 (T k).2.2.1).before args s = true) (hfin : (T k).2.2.2 = true → meth.name = "<init>" ∧ (T k).1 = own) {v : Value} (hn : narrow (ty0 k) v = v) (hfit : fits (ty0 k) v = true) (hl : k < fs.length)
    (hdg : decode cc pc = .ok (.putfield index, 3)) (kk : ∀ (H1 : Heap) (locs1 : List Loc), va_P D cl (ws.set q0 (a, .inr (ci, fs.set k v))) H1 → va_D A (ws.set q0 (a, .inr (ci, fs.set k v))) → va_S A H0 H1 locs1 → H1.size = H.size → W p l e R s m args below meth c H1 locs1 cells slots Q (F0 m (pc + 3) ls rest)) : W p l e R s m args below meth c H locs cells slots Q (F0 m pc ls (v :: .ref a :: rest)) := by
  have hap := va_apart (own := own) hts hin ty0 hty hnm hK hc
  obtain ⟨r, h1, cell, q1, q2, q3, q4⟩ := hP q0 _ he
  have hr : r = (C, T, N) := Option.some.inj (h1.symm.trans hc)
  subst hr
  obtain ⟨hS, hfc, kC, hkC, hkind⟩ := hK.1 ci _ hc
  obtain ⟨cf, kf, fi, f, hi, hsl⟩ := hS k hk
  have hlay := hts _ (hin _ (u_in_lay hk))
  unfold u_lay at hlay
  have hst := (u_facts hfc hkC (u_lays hts hin hk) hi).1
  cases hf : (T k).2.2.2 with
  | false =>
    rw [if_neg (by rw [hf]; decide)] at hlay
    have h6 := u_store hfc hkC hkind hlay hi (hty k hk) hn hfit
    refine W.putK hexec hb (f := f) ⟨hown, hlink, ⟨_, _, _, hi⟩, hst⟩ (by rw [q2]; exact h6) q1 q3 (by rw [hsl]; exact k2_hasslot (q4 k hk)) rfl rfl hdg fun H' e1 e2 e3 => ?_
    rw [hsl] at e1 ⊢
    exact kk H' _ (hP.set hD he ⟨_, hc, t_OB.to (V := updV (vp_V fs) k v) ⟨_, e1, q2, q3, t_set q4 hap hk v⟩ (fun j _ => vp_updV_set hl v j)⟩ e3) (hD.set he) (hS0.put e2 e3 (hD.2 q0 _ he)) e2
  | true =>
    obtain ⟨hin2, hdecl⟩ := hfin hf
    rw [if_pos hf] at hlay
    have hcf : m.cls = cf := by
      obtain ⟨_, _, c', _, _, _, -, -, hf', -, -, -, hown2, -⟩ := Cond.laysFinal_spec hlay
      have e1 : c' = cf := by have := hi.symm.trans hf'; simp at this; exact this.1.symm
      rw [hdecl] at hown2
      rw [← e1]; exact Option.some.inj (hown.symm.trans hown2)
    have h6 := u_fits hfc hkC hkind (Or.inr hlay) hi (hty k hk) hn hfit
    refine W.putFinK hexec hb hown hlink hi hst hcf hin2 (by rw [q2]; exact h6) q1 q3 (by rw [hsl]; exact k2_hasslot (q4 k hk)) rfl rfl hdg fun H' e1 e2 e3 => ?_
    rw [hsl] at e1 ⊢
    exact kk H' _ (hP.set hD he ⟨_, hc, t_OB.to (V := updV (vp_V fs) k v) ⟨_, e1, q2, q3, t_set q4 hap hk v⟩ (fun j _ => vp_updV_set hl v j)⟩ e3) (hD.set he) (hS0.put e2 e3 (hD.2 q0 _ he)) e2
/-- aastore, the heap's size told -/
theorem am_ast (hexec : p.tables.exec = Jvm.exec) (hb : c.code = cc) (hK : va_K D cl tys s) (hP : va_P D cl ws H) (hD : va_D A ws) (hS : va_S A H0 H locs) (q0 t0 qk ci : Nat) {cA : ClassId} {r : vw_C} {n v : Nat} {vs : List Value} {f : Nat → Option Nat} (ha : ws[q0]? = some (a, .inl (cA, n, .inr (.inr (.inr (.inr f)))))) (ht : tys[t0]? = some (cA, .object r.1)) (hv : ws[qk]? = some (v, .inr (ci, vs))) (hc : cl[ci]? = some r) {i : Int32} (hin : vp_in i n) (hdg : decode cc pc = .ok (.aastore, 1))
    (kk : ∀ (H1 : Heap) (locs1 : List Loc), va_P D cl (ws.set q0 (a, .inl (cA, n, .inr (.inr (.inr (.inr (va_up f i.toNatClampNeg (some v)))))))) H1 → va_D A (ws.set q0 (a, .inl (cA, n, .inr (.inr (.inr (.inr (va_up f i.toNatClampNeg (some v)))))))) → va_S A H0 H1 locs1 → H1.size = H.size → W p l e R s m args below meth c H1 locs1 cells slots Q (F0 m (pc + 1) ls rest)) : W p l e R s m args below meth c H locs cells slots Q (F0 m pc ls (.ref v :: .int i :: .ref a :: rest)) := by
  have hlt : i.toNatClampNeg < n := Nat.not_le.mp fun q => hin (Or.inr q)
  have h0 : ¬ i < 0 := fun q => hin (Or.inl q)
  obtain ⟨r', hr', cellV, g1, g2, g3, -⟩ := hP qk _ hv
  have hcls := (hK.1 ci r hc).2
  obtain ⟨kA, comp, k1, k2, k3, -⟩ := (hK.2 t0 _ ht).2
  have hcomp : comp = D.1 ci := Option.some.inj (k3.symm.trans hcls.1)
  subst hcomp
  obtain ⟨kC, hkC, -⟩ := hcls.2
  refine W.aast hexec hb (hP q0 _ ha) (fun q h => by cases h) (fun h => by cases h) k1 k2 rfl hkC ⟨h0, by show _ < (arrV _ _ _).slots.size; rw [arrV_size]; exact hlt⟩ g1 (fun q h => by rw [g3] at h; cases h) (by rw [g2]; exact hkC) (by rw [g2]; exact va_assign hcls) rfl rfl hdg fun H1 e z oq => ?_
  refine kk H1 _ (hP.set hD ha ?_ oq) (hD.set ha) (hS.put z oq (hD.2 q0 _ ha)) z
  show H1[a]? = some (vp_cell _ _)
  rw [e]
  rw [vp_cell_q, vp_cell_q, arrV_store]
  congr 2
  funext q
  by_cases hq : q = i.toNatClampNeg
  · subst hq
    simp [updV, va_up, va_rf]
  · simp [updV, va_up, hq]
end AMP
