/-! room: the class's method, and the law's own with its table -/
theorem c_room {E : am_E} {g : x_G} {k : Nat} {Q : x_Q} {I L : Nat → Nat → Int} {lp tp : Nat} {a : q_A} {p0 p1 : Int} (hP : q_JP a) (hC : q_JC I lp a) (r0 : x_rg p0) (r1 : x_rg p1) (q1 : (0 ≤ p0 ∧ p0 < (j_R a : Int)) ∧ (0 ≤ p1 ∧ p1 ≤ 6) → Q [x_i (q_rmv a p0 p1)] (I, L, lp, tp)) (q0 : ¬ ((0 ≤ p0 ∧ p0 < (j_R a : Int)) ∧ (0 ≤ p1 ∧ p1 ≤ 6)) → x_SE E g 300 (k + 2) Q 0 0 9 [x_n, x_n, x_n] [] (I, L, lp, tp)) : x_SE E g 300 (k + 2) Q 0 0 0 [x_r 1, x_i p0, x_i p1] [] (I, L, lp, tp) := by
  have hR := q_R8 hP
  have hO : I 14 3 = (j_R a : Int) := hC.2.1.1.1
  have hT := hC.2.1.1.2.2.1
  obtain ⟨s1, ⟨dd, d1, d2, d3⟩, -⟩ := hC.2.1.2.2.2.2.1
  refine v_room0 (k := k) ⟨r0, fun c => q0 (by omega), fun c => ?_⟩
  rw [hO]
  refine ⟨⟨by omega, by omega⟩, fun c1 => q0 (by omega), fun c1 => ⟨r1, fun c2 => q0 (by omega), fun c2 => ⟨fun c3 => ?_, fun c3 => q0 (by omega)⟩⟩⟩
  have q1 := q1 ⟨⟨c, c1⟩, c2, c3⟩
  unfold q_rmv at q1
  have tr : ¬ p1 = 2 → ¬ p1 = 5 → ¬ p1 = 6 → (0 ≤ p0 * 5 + p1 ∧ p0 * 5 + p1 < 40) ∧ Q [x_i (I 16 (p0 * 5 + p1).toNat)] (I, L, lp, tp) := fun n2 n5 n6 => by
    rw [if_neg n2, if_neg n5, if_neg n6] at q1
    rw [show (p0 * 5 + p1).toNat = 5 * p0.toNat + p1.toNat by omega, hT _ (by omega)]
    exact ⟨⟨by omega, by omega⟩, q1⟩
  refine ⟨fun e => ⟨⟨by omega, by omega⟩, ?_⟩, fun e => tr (by omega) (by omega) (by omega), fun e => tr (by omega) (by omega) (by omega), fun e => ⟨⟨by omega, by omega⟩, ?_⟩, fun e => ⟨⟨by rw [d2]; omega, by rw [d2]; omega⟩, ⟨by omega, by omega⟩, fun hb => ?_, fun hb => ?_⟩, fun e => tr e.1 e.2.2.2.1 e.2.2.2.2⟩
  · rw [if_pos e] at q1
    have e1 : I 19 p0.toNat = q_vN (j_v a) p0.toNat := (s1 _ (by omega)).1
    rw [e1]; exact q1
  · rw [if_neg (by omega), if_pos e] at q1
    have e1 : I 20 p0.toNat = q_vN (j_v a) (8 + p0.toNat) := (s1 _ (by omega)).2
    rw [e1]; exact q1
  · rw [d2, Int.toNat_natCast] at hb
    rw [if_neg (by omega), if_neg (by omega), if_pos e, d3 _ (by omega), if_pos hb] at q1
    exact q1
  · rw [d2, Int.toNat_natCast] at hb
    rw [if_neg (by omega), if_neg (by omega), if_pos e, d3 _ (by omega), if_neg hb] at q1
    exact q1
theorem am_rep_more {Γ : am_G} {w : am_W} {H H1 : Heap} (hr : am_rep Γ w H) (hz : w.2.2.2.2.1 = 204) (h1 : H.size ≤ H1.size) (h2 : ∀ q : Nat, q < H.size → H1[q]? = H[q]?) : am_rep Γ w H1 :=
  ⟨hr.1, fun k x hx => (hr.2.1 k x hx).kept (h2 _ ((hr.2.1 k x hx).lt)), hr.2.2.1, Nat.le_trans hr.2.2.2.1 h1, fun h => by omega⟩
theorem am_retM {Γ : am_G} {l : Launch} {mid : Nat} {Q : am_Q} {p : Program} {e : Env} {R : Room} {s : State} {m : MethodId} {args : Array Value} {below : List Frame} {meth : Method} {c : Code} (hx : p.tables.exec = Jvm.exec) (hb : c.code = (am_mt mid).2.1) (hre : meth.sig.returnType = (am_mt mid).2.2.2.1) (hlk : meth.locks = false) (he : am_env Γ s s.heap) : ∀ (r : List Value) (w : am_W) (H : Heap) (locs : List Loc) (pc : Nat) (lc : Array Slot), Q r w → am_rep Γ w H → am_cn mid w → va_S (am_A Γ) s.heap H locs → am_rt (am_mt mid).2.1 (am_mt mid).2.2.2.1 pc r → W p l e R s m args below meth c H locs w.2.2.2.2.2.1 w.2.2.2.2.2.2 (MQ below (am_Qc Γ Q) args s (am_bd mid).1 (am_bd mid).2 (am_A Γ)) (F0 m pc lc (r.map (am_cv Γ))) := by
  intro r w' H locs pc lc hq hrep hcn hS hrt
  refine W.widen hcn.1 hcn.2 ?_
  have hF : ∀ t : State, t.heap = H → va_F (am_A Γ) s t := fun t ht => hS.F ht
  have hend : ∀ t : State, t.heap = H → am_Qc Γ Q args s (.returned ((r.map (am_cv Γ)).head?)) t := fun t ht => ⟨⟨r, w', rfl, by
    unfold am_rt at hrt
    split at hrt <;> first | exact hrt.elim | simp, hq, by rw [ht]; exact hrep⟩, hF t ht⟩
  unfold am_rt at hrt
  split at hrt
  · exact W.vret hx hb (hre.trans hrt.2) (fun t ht _ => hend t ht) hS.2.2 hrt.1 hlk
  · obtain ⟨h1, ty, h2, h3⟩ := hrt
    exact W.zret hx hb (hre.trans h2) h3 (fun t ht _ => hend t ht) hS.2.2 h1 hlk
  · exact W.lret hx hb (hre.trans hrt.2) (fun t ht _ => hend t ht) hS.2.2 hrt.1 hlk
  · rename_i x
    exact W.aret hx hb (hre.trans hrt.2.1) (Or.inr ⟨_, rfl⟩) (am_cv_ref he x) (fun t ht _ => hend t ht) hS.2.2 hrt.1 hlk
  · exact hrt.elim
def rm_v (a : q_A) (p0 p1 : Int) : Prop := (0 ≤ p0 ∧ p0 < (j_R a : Int)) ∧ (0 ≤ p1 ∧ p1 ≤ 6)
def rm_Pc (g : x_G) (as : List x_V) (w : x_W) : Array Value → State → Prop := fun A U => am_Pc g.1 (as.map x_cV) (x_cW g.2.2 w) A U ∧ am_ex g.1 g.2.1 U U.heap
def rm_X (g : x_G) (a : q_A) (p0 p1 : Int) (w : x_W) : String → State → State → Prop := fun E st t => E = "java/util/NoSuchElementException" ∧ ¬ rm_v a p0 p1 ∧ am_rep g.1 (x_cW g.2.2 w) t.heap ∧ va_F (am_A g.1) st t
theorem rm_blind (g : x_G) (as : List x_V) (w : x_W) : FrameBlind (rm_Pc g as w) := fun a U f mk h => ⟨am_blind _ _ _ a U f mk h.1, am_ex_same h.2 rfl rfl (fun _ _ _ _ g => vk_R.same rfl g)⟩
theorem rm_cls300 : (am_mt 300).1.cls = am_Rn (am_mt 300).2.2.2.2.1 := by decide +kernel
theorem rm_T : am_Rn (am_mt 300).2.2.2.2.1 = "TeaTrolley" := by decide +kernel
theorem rm_cls301 : (am_mt 301).1.cls = am_Rn (am_mt 301).2.2.2.2.1 := by decide +kernel
theorem rm_L : am_Rn (am_mt 301).2.2.2.2.1 = "TeaTrolleyLaw" := by decide +kernel
theorem rm_L286 : am_Rn (am_mt 286).2.2.2.2.1 = "TeaTrolleyLaw" := by decide +kernel
theorem rm_fl300 : (am_mt 300).2.2.2.2.2.1 = 0 := by decide +kernel
theorem rm_fl301 : (am_mt 301).2.2.2.2.2.1 = 1 := by decide +kernel
theorem rm_ml300 : (am_mt 300).2.2.1 = 3 := by decide +kernel
theorem rm_ml301 : (am_mt 301).2.2.1 = 5 := by decide +kernel
theorem rm_p9 : (am_ct 300).1.getD 9 0 = 18 := by decide +kernel
theorem rm_p0 : (am_ct 300).1.getD 0 0 = 0 := by decide +kernel
theorem rm_q0 : (am_ct 301).1.getD 0 0 = 0 := by decide +kernel
theorem rm_q5 : (am_ct 301).1.getD 5 0 = 5 := by decide +kernel
theorem rm_q6 : (am_ct 301).1.getD 6 0 = 8 := by decide +kernel
theorem rm_d18 : decode (am_mt 300).2.1 18 = .ok (.new 208, 3) := by decide +kernel
theorem rm_d21 : decode (am_mt 300).2.1 21 = .ok (.dup, 1) := by decide +kernel
theorem rm_d22 : decode (am_mt 300).2.1 22 = .ok (.ldc 210, 2) := by decide +kernel
theorem rm_d24 : decode (am_mt 300).2.1 24 = .ok (.invokespecial 212, 3) := by decide +kernel
theorem rm_d27 : decode (am_mt 300).2.1 27 = .ok (.athrow, 1) := by decide +kernel
theorem rm_e5 : decode (am_mt 301).2.1 5 = .ok (.invokevirtual 7, 3) := by decide +kernel
theorem rm_e13 : decode (am_mt 301).2.1 13 = .ok (.astore 4, 2) := by decide +kernel
theorem rm_e15 : decode (am_mt 301).2.1 15 = .ok (.iconst 1, 1) := by decide +kernel
theorem rm_e16 : decode (am_mt 301).2.1 16 = .ok (.ireturn, 1) := by decide +kernel
theorem rm_r301 : (am_mt 301).2.2.2.1 = some .int := by decide +kernel
theorem rm_300 {g : x_G} {d : Nat} (hg : g.2.2 ≤ 3072) (hd : 6 ≤ d) {I L : Nat → Nat → Int} {lp tp : Nat} {a : q_A} {p0 p1 : Int} (hP : q_JP a) (hC : q_JC I lp a) (r0 : x_rg p0) (r1 : x_rg p1) : vx_Met g.2.1 (am_mt 300).1 (am_ws 300) (am_rm d 300) (rm_Pc g [x_r 1, x_i p0, x_i p1] (I, L, lp, tp)) (am_Qc g.1 (x_lL g.2.2 (fun r w => rm_v a p0 p1 ∧ r = [x_i (q_rmv a p0 p1)] ∧ w = (I, L, lp, tp)))) (rm_X g a p0 p1 (I, L, lp, tp)) 1 8 (am_A g.1) := by
  refine vx_ofW (cc := (am_mt 300).2.1) (maxL := (am_mt 300).2.2.1) (ret := (am_mt 300).2.2.2.1) (by decide +kernel) rfl ?_
  intro p e s m args below meth c s₁ B hml ht hv
  obtain ⟨⟨rfl, hr, he⟩, hx⟩ := hv
  have hcat := am_env_cat he
  have hts : ∀ w ∈ am_ws 300, w.before _ s = true := atoms_spec (ws := am_ws 300) B.pre
  have hts2 : ∀ w ∈ lw_g, w.before _ s = true := fun w hw => hts w (List.mem_cons_of_mem _ hw)
  have hown : s.vm.findClass (am_Rn (am_mt 300).2.2.2.2.1) = some m.cls := by rw [← rm_cls300]; exact findClass_of_methodNamed B.named
  have hown2 : s.vm.findClass "TeaTrolley" = some m.cls := by rw [rm_T] at hown; exact hown
  obtain ⟨hl, hlen⟩ := am_ent_lv (Γ := g.1) hcat (as := ([x_r 1, x_i p0, x_i p1] : List x_V).map x_cV) (n := (am_mt 300).2.2.1) (fun v hv => by
    simp only [List.map_cons, List.map_nil, List.mem_cons, List.not_mem_nil, or_false] at hv
    rcases hv with rfl | rfl | rfl <;> rfl) (by rw [rm_ml300]; exact Nat.le_refl _)
  have hsz : g.1.2.2.1 + 1 ≤ s.heap.size := by
    have h1 := hr.1.2.1.1
    have h2 := hr.2.2.2.1
    omega
  have hw13 := am_ex_w hx hts2
  have hth : ¬ rm_v a p0 p1 → am_At g.1 g.2.1 300 p e (am_rm d 300) s m ((([x_r 1, x_i p0, x_i p1] : List x_V).map x_cV).map (am_cv g.1)).toArray below meth c (vx_MQ below (am_Qc g.1 (x_lL g.2.2 (fun r w => rm_v a p0 p1 ∧ r = [x_i (q_rmv a p0 p1)] ∧ w = (I, L, lp, tp)))) (rm_X g a p0 p1 (I, L, lp, tp)) ((([x_r 1, x_i p0, x_i p1] : List x_V).map x_cV).map (am_cv g.1)).toArray s 1 8 (am_A g.1)) 9 (([x_n, x_n, x_n] : List x_V).map x_cV) (([] : List x_V).map x_cV) (am_zc (x_cW g.2.2 (I, L, lp, tp)) 0 0) := by
    intro hnv H locs lc hrep hcn hS hl hlen
    obtain ⟨x1, x2, x3, ⟨sa, x4⟩, -⟩ := hx
    rw [rm_p9]
    refine vx_make13 (cc := (am_mt 300).2.1) (own := "TeaTrolley") (cls := "java/util/NoSuchElementException") (Y9 := "java/lang/RuntimeException") (text := "no such room or trait") (names := ["java/lang/Exception"]) (ik := 208) (is := 210) (ic := 212) (sa := sa) (A := am_A g.1) (rest := []) B.exec B.bytes x1 hown2 (by decide +kernel) (by decide +kernel) (by decide +kernel) (hw13 _ List.mem_cons_self) (hw13 _ (List.mem_cons_of_mem _ List.mem_cons_self)) x4 (fun w hw => hw13 w (List.mem_cons_of_mem _ (List.mem_cons_of_mem _ hw))) (fun w hw => List.all_eq_true.mp vx_t13 w hw) x2 x3 hS (hl.1.trans (hlen.trans hml.symm)) rm_d18 rm_d21 rm_d22 rm_d24 (by show 1 + 4 < d + 1; omega) (by show 0 + (13 * (1 + 2) + 43) ≤ 96 * (d + 1); omega) (by show 0 + 1 ≤ 1; decide) (by show 0 + 6 ≤ 8; decide) ?_
    intro H1 ce g1 g2 g3 g4 g5
    have hS1 : va_S (am_A g.1) s.heap H1 locs := ⟨Nat.le_trans hS.1 g1, fun q h1 h2 => (g2 q (Nat.lt_of_lt_of_le h1 hS.1)).trans (hS.2.1 q h1 h2), hS.2.2⟩
    refine vx_athrow (pc := 27) B.exec B.bytes rm_d27 ?_
    exact vx_out (E := "java/util/NoSuchElementException") (ce := ce) (fun x hx => (ht x hx).elim) B.notSynchronized g3 g4 g5 (fun t ht' _ => ⟨rfl, hnv, by rw [ht']; exact am_rep_more hrep rfl g1 g2, hS1.F ht'⟩) hS1.2.2 (by show 0 + 1 ≤ 1; decide) (by show 0 + 6 ≤ 8; decide)
  have K := c_room (E := fun p e R s m args below meth c Z => ¬ rm_v a p0 p1 → am_At g.1 g.2.1 300 p e R s m args below meth c Z 9 (([x_n, x_n, x_n] : List x_V).map x_cV) (([] : List x_V).map x_cV) (am_zc (x_cW g.2.2 (I, L, lp, tp)) 0 0)) (g := g) (k := 0) (Q := fun r w => rm_v a p0 p1 ∧ r = [x_i (q_rmv a p0 p1)] ∧ w = (I, L, lp, tp)) (L := L) (tp := tp) hP hC r0 r1 (fun hv => ⟨hv, rfl, rfl⟩) (fun hv _ d _ p e R s m args below meth c Z hE _ => hE hv) hg d (by omega) p e (am_rm d 300) s m _ below meth c _ hth ⟨B.exec, B.bytes, hml, hown, hts2, he, (fun h2 => absurd (rm_fl300.symm.trans h2) (by decide)), Nat.le_refl _, Nat.le_refl _, Nat.le_refl _, Nat.le_refl _, hsz, fun r w H locs pc lc hq hrep hcn hS hrt => vx_ret (am_retM (mid := 300) B.exec B.bytes B.returns B.notSynchronized he r w H locs pc lc hq hrep hcn hS hrt)⟩ s.heap [] _ hr ⟨Nat.zero_le _, Nat.zero_le _⟩ ⟨Nat.le_refl _, fun q _ _ => rfl, fun q hq => by cases hq⟩ hl hlen
  rw [rm_p0] at K
  rw [lg_entry_eq]
  exact K
