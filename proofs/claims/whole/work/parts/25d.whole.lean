/-! the claim out of one walk of the law (the kit's skeleton; my part is whole_start and the rows ahead of it) -/
/-! THE CLAIM OUT OF ONE WALK OF THE LAW'S BODY. Your part is whole_start (and what it stands on); all else here is the same for every law, but numbers. -/
def R_law : String := "TeaTrolleyLaw"
def lw_P (b : Addr) (xs : List Int32) (args : Array Value) (s : State) : Prop := args = #[.ref b] ∧ s.IntsAt b xs ∧ xs.length ≤ 3072 ∧ (Jvm.Cond.and given_1 narrow_1).before args s = true
def lw_Q (_ : Array Value) (s : State) (o : Outcome) (t : State) : Prop := o = .returned (some (.int 1)) ∧ Framed s o t [] 601024 7293034
def lw_Z (below : List Frame) (a : Array Value) (s : State) : State → Prop := fun t => ∃ o, t.status = .running ∧ Ended t below o ∧ lw_Q a s o t
/-- the law's own end, with 1 on the stack, nothing written that was there before, its room as the claim has it -/
theorem lw_ret {p : Program} {l : Launch} {e : Env} {s : State} {m : MethodId} {below : List Frame} {meth : Method} {c : Code} {b : Nat} (hx : p.tables.exec = Jvm.exec) (hb : c.code = code) (hr : meth.sig.returnType = ret) (hlocks : meth.locks = false) {pc : Nat} {H : Heap} {ls : Array Slot} (hdg : decode code pc = .ok (.ireturn, 1)) : W p l e room_1 s m #[Value.ref b] below meth c H [] 601024 7293034 (lw_Z below #[Value.ref b] s) (F0 m pc ls [.int 1]) := by
  intro T hT X
  obtain ⟨fs, hret, hrun, hended, hW, hframe⟩ := X.leave (v := some (.int 1)) (hlocks := hlocks) (fun h => by rw [hr] at h; cases h)
  have hmeth' : T.vm.method? m = some meth := X.method'
  refine ⟨T.setFrames fs, ?_, .returned (some (.int 1)), hrun, hended, rfl, ⟨_, rfl⟩, hW, hframe⟩
  jvm_step X.here [X.here.top, hx, hb, hdg, hmeth', hr, ret, narrow_b1]
  (try refine ⟨rfl, ?_⟩); (try refine ⟨rfl, ?_⟩)
  first | (intro acts; rw [hret _ acts rfl rfl rfl]) | rw [hret _ _ rfl rfl rfl]
  exact Steps.refl _
/-- what holds at the law's entry: the machine, the code, the tables' words (any of lw_tbl by 'hts w (by decide +kernel)'), the script of L ints xs at the cell b, what the Statement gives of the start (any of its parts by flat_of_before) -/
def lw_At (p : Program) (s : State) (m : MethodId) (meth : Method) (c : Code) (b L : Nat) (xs : Nat → Int32) : Prop :=
  p.tables.exec = Jvm.exec ∧ c.code = code ∧ meth.sig.returnType = ret ∧ c.maxLocals = 7 ∧ s.vm.findClass R_law = some m.cls ∧ (∀ w ∈ lw_tbl, w.before #[Value.ref b] s = true) ∧ va_X b L xs s s.heap ∧ b < s.heap.size ∧ meth.locks = false ∧ (Jvm.Cond.and given_1 narrow_1).before #[Value.ref b] s = true
theorem st_mt : (am_mt 286).2.1 = code ∧ (am_mt 286).2.2.1 = 7 ∧ (am_mt 286).2.2.2.1 = ret ∧ am_Rn (am_mt 286).2.2.2.2.1 = R_law ∧ (am_mt 286).2.2.2.2.2.1 = 1 := ⟨rfl, rfl, rfl, rfl, rfl⟩
theorem st_bd : am_bd 286 = (601024, 7293034) := rfl
theorem st_c0 : (am_ct 286).1.getD 0 0 = 0 := by decide +kernel
theorem st_ro (xs : Nat → Int32) : q_Sf (fun a k => (st_int xs a k).toInt) ∧ q_sta (fun a k => (st_int xs a k).toInt) ∧ q_str (fun a k => (st_int xs a k).toInt) := by
  refine ⟨fun j hj => ?_, ⟨fun w hw => ?_, fun w hw => ?_⟩, ⟨rfl, rfl, rfl, rfl⟩, rfl, ⟨rfl, rfl, rfl, rfl, rfl, rfl⟩, ⟨rfl, rfl, rfl, rfl⟩, rfl, rfl, rfl, rfl, rfl⟩
  · rcases (show j = 0 ∨ j = 1 ∨ j = 2 ∨ j = 3 ∨ j = 4 ∨ j = 5 ∨ j = 6 ∨ j = 7 ∨ j = 8 by omega) with rfl | rfl | rfl | rfl | rfl | rfl | rfl | rfl | rfl <;> rfl
  · rcases (show w = 0 ∨ w = 1 ∨ w = 2 ∨ w = 3 by omega) with rfl | rfl | rfl | rfl <;> exact ⟨rfl, rfl, rfl⟩
  · rcases (show w = 0 ∨ w = 1 ∨ w = 2 ∨ w = 3 ∨ w = 4 by omega) with rfl | rfl | rfl | rfl | rfl <;> exact ⟨rfl, rfl, rfl⟩
theorem st_rep {Γ : am_G} {l : Launch} {L : Nat} {xs : Nat → Int32} {H : Heap} (g1 : Γ.2.2.1 + 1 = H.size) (g3 : Γ.2.2.2.2.1 = x_sh L) : am_rep Γ (cr_b0 (Γ, l, L)) H := by
  refine am_rep_mk ⟨fun a ha => ?_, ⟨Nat.le_refl _, show 1 ≤ 204 by decide⟩, fun a h1 h2 => ?_, fun a ha => ⟨?_, fun j => ?_, fun k => ?_⟩⟩ (fun a h1 h2 => ?_) g1.symm
  · have ha : a = 0 ∨ (1 ≤ a ∧ a < 5000) := ha
    show ((if a < 5000 then (0, 0) else x_sh L a) : Nat × Nat).1 = 0
    rw [if_pos (by omega)]
  · have h2 : a < 1 := h2
    omega
  · show ((if a < 5000 then (0, 0) else x_sh L a) : Nat × Nat) = Γ.2.2.2.2.1 a
    rw [if_neg (by omega), g3]
  · show (if a < 5000 then 0 else Γ.2.2.2.2.2 a j) = Γ.2.2.2.2.2 a j
    rw [if_neg (by omega)]
  · show (if a < 5000 then 0 else x_r0 a k) = am_roR a k
    rw [if_neg (by omega), st_r0 ha]
  · have h2 : a < 1 := h2
    omega
/-- from the entry, for every script of at most 3072 ints, the law comes to its end with true -/
theorem whole_start {p : Program} {e : Env} {s : State} {m : MethodId} {below : List Frame} {meth : Method} {c : Code} (l : Launch) (hflags : l.flags = flags0) {b L : Nat} {xs : Nat → Int32} (hL : L ≤ 3072) (C0 : lw_At p s m meth c b L xs) : W p l e room_1 s m #[Value.ref b] below meth c s.heap [] 0 0 (lw_Z below #[Value.ref b] s) (entryFrame m ([Value.ref b] : List Value).toArray 7) := by
  obtain ⟨hx, hb, hr, hml, hown, hts, hX, hbl, hlocks, hgv⟩ := C0
  obtain ⟨Γ, g1, g2, g3, g4, hE, hEx⟩ := st_env hflags hL hts hgv hX hbl
  have hro : q_ro ((Γ, l, L) : x_G) = fun a k => (st_int xs a k).toInt := by
    unfold q_ro
    dsimp only
    rw [g4]
  obtain ⟨hf, hs, ht⟩ := st_ro xs
  rw [← hro] at hf hs ht
  have K := cr_go0 (g := (Γ, l, L)) (k := 0 + 140) (Q := fun r _ => r = [x_i 1]) cr_end_eq.1 cr_end_eq.2 cr_Se_gd hL (cr_h5 ht) (fun hN => whole_loop (k := 0) (fun _ => rfl) hL 601024 7293034 (whole_room whole_H0) 512 0 203 30530 _ (cr_J hf hs ht cr_Se_gd hN) (by decide) (by show (0 : Int) ≤ (L : Int); omega) (by show (L : Int) < _; omega) (by decide) (by decide)) (d := 141) (by decide) (by decide)
  have hcat := am_env_cat hE
  obtain ⟨hl, hlen⟩ := am_ent_lv hcat (as := [.ref 6000]) (n := 7) (fun v hv => by cases List.mem_singleton.mp hv; rfl) (by decide)
  have ecv : ([.ref 6000] : List Value).map (am_cv Γ) = [.ref b] := by
    show [am_cv Γ (.ref 6000)] = _
    rw [am_cv_ro (by decide), g2]
  rw [ecv] at hl
  have hQ : ∀ (r : List Value) (w : am_W) (H : Heap) (locs : List Loc) (pc : Nat) (lc : Array Slot), x_lL L (fun r _ => r = [x_i 1]) r w → am_rep Γ w H → am_cn 286 w → va_S (am_A Γ) s.heap H locs → am_rt (am_mt 286).2.1 (am_mt 286).2.2.2.1 pc r → W p l e room_1 s m #[Value.ref b] below meth c H locs w.2.2.2.2.2.1 w.2.2.2.2.2.2 (lw_Z below #[Value.ref b] s) (F0 m pc lc (r.map (am_cv Γ))) := by
    intro r w H locs pc lc hq hrep hcn hS hrt
    obtain ⟨r', w', c', s', e1, e2, e3⟩ := hq
    have e3 : r' = [x_i 1] := e3
    rw [e3] at e1
    have e1 : r = [.int 1] := e1
    rw [e1] at hrt ⊢
    have hdg : decode (am_mt 286).2.1 pc = .ok (.ireturn, 1) := hrt.1
    rw [st_mt.1] at hdg
    unfold am_cn at hcn
    rw [st_bd] at hcn
    refine W.widen hcn.1 hcn.2 ?_
    refine va_forget (fun q hq => ?_) ?_
    · have h := hS.2.2 q hq
      have h : Γ.2.2.1 + 1 ≤ q.base := h
      omega
    · exact lw_ret hx hb hr hlocks hdg
  have K2 := K p e room_1 s m #[Value.ref b] below meth c (lw_Z below #[Value.ref b] s) hEx ⟨hx, hb.trans st_mt.1.symm, hml.trans st_mt.2.1.symm, (by rw [st_mt.2.2.2.1]; exact hown), fun w hw => hts w (List.mem_filter.mp hw).1, hE, fun h => (by rw [st_mt.2.2.2.2] at h; cases h), Nat.le_of_ble_eq_true rfl, Nat.le_of_ble_eq_true rfl, (by rw [st_bd]; exact Nat.le_refl _), (by rw [st_bd]; exact Nat.le_refl _), Nat.le_of_eq g1, hQ⟩ s.heap [] _ (st_rep (xs := xs) g1 g3) ⟨Nat.zero_le _, Nat.zero_le _⟩ ⟨Nat.le_refl _, fun q _ _ => rfl, fun q hq => by cases hq⟩ hl (hlen.trans st_mt.2.1.symm)
  rw [st_c0] at K2
  rw [lg_entry_eq]
  exact K2
set_option maxHeartbeats 4000000 in
theorem lw_walk (l : Launch) (hflags : l.flags = flags0) (b : Addr) (xs : List Int32) : MetFree l x (headSpec (Jvm.Cond.code x code maxLocals ret :: tables_1) room_1) (lw_P b xs) (fun _ _ _ _ _ => True) lw_Q := by
  refine MetFree.of_bodyS (code := code) (maxLocals := maxLocals) (ret := ret) (by decide) ?_ ?_
  · intro args s m h hn
    obtain ⟨meth, c, h1, h2, h3, h4, h5, h6, -, -⟩ := Cond.code_spec hn (atoms_spec (ws := Jvm.Cond.code x code maxLocals ret :: tables_1) h _ List.mem_cons_self)
    exact ⟨meth, c, h1, h2, h3, h4, h5, h6⟩
  · intro p e s m args below meth c s₁ B hml0 hP _
    obtain ⟨rfl, hx, hbd, hgv⟩ := hP
    obtain ⟨scr, harrAt, hlist, hof, hsmall⟩ := hx
    obtain ⟨hcb, hkn, -, -⟩ := State.arrayAt?_spec harrAt
    have hown : s.vm.findClass R_law = some m.cls := findClass_of_methodNamed B.named
    have hts0 : ∀ c ∈ (Jvm.Cond.code x code maxLocals ret :: tables_1), c.before #[Value.ref b] s = true := atoms_spec (ws := Jvm.Cond.code x code maxLocals ret :: tables_1) B.pre
    have hts : ∀ w ∈ lw_tbl, w.before #[Value.ref b] s = true := k2_hts_sels lw_privs (fun w hw => hts0 w (List.mem_cons_of_mem _ hw)) lw_privs_ok
    have hml : c.maxLocals = 7 := B.maxLocals_eq (hts0 _ List.mem_cons_self)
    have X₀ : Stand p l e room_1 s m #[Value.ref b] below meth c s₁ [] 0 0 := Stand.of_body B
    have hh0 : s₁.heap = s.heap := by rw [B.state]; rfl
    have hsz : scr.slots.size = xs.length := by rw [← Array.length_toList, hlist, List.length_map]
    have hval : ∀ j : Nat, j < xs.length → scr.slots[j]? = some (.int (xs.getD j 0)) := fun j hj => by
      rw [← Array.getElem?_toList, hlist]
      simp [hj]
    have hbl : b < s.heap.size := (Array.getElem?_eq_some_iff.mp hcb).1
    have hX : va_X b xs.length (fun j => xs.getD j 0) s s.heap := ⟨scr, hcb, hof, hkn, hsz, hval⟩
    have K : W p l e room_1 s m #[Value.ref b] below meth c s₁.heap [] 0 0 (lw_Z below #[Value.ref b] s) (entryFrame m ([Value.ref b] : List Value).toArray 7) := by
      rw [hh0]
      exact whole_start l hflags hbd ⟨B.exec, B.bytes, B.returns, hml, hown, hts, hX, hbl, B.notSynchronized, hgv⟩
    obtain ⟨t, a1, o, b1, b2, b3⟩ := K s₁ rfl X₀
    exact ⟨t, o, a1, b1, b2, b3⟩
theorem lw_pre_spec {args : Array Value} {s : State} (h : (Jvm.Cond.and given_1 narrow_1).before args s = true) (hr : rest_1_c.before args s = true) : ∃ (b : Addr) (xs : List Int32), lw_P b xs args s := by
  have hs := flat_of_before _ h
  have hq := flat_of_before _ hr
  have hc : (Cond.count 1).before args s = true := hs _ (by decide +kernel)
  have harr : (Cond.arrayOf (.arg 0) .int).before args s = true := hs _ (by decide +kernel)
  have hle : (Cond.le (.length (.arg 0)) (.int 3072)).before args s = true := hs _ (by decide +kernel)
  have hlen : (Cond.isInt (.length (.arg 0))).before args s = true := hq _ (by decide +kernel)
  have hall : (Cond.all (.arg 0) (.isInt (.elem (.arg 0) (.index 0)))).before args s = true := hq _ (by decide +kernel)
  obtain ⟨b, xs, hb, hx⟩ := State.ints_of_pre rfl harr hlen hall
  have hsm : xs.length < 2 ^ 31 := hx.choose_spec.2.2.2
  have hev : (Term.length (.arg 0)).eval args s none [] s = some (.int xs.length.toInt32) := hx.length_eval hb
  have hv := Cond.le_ints hev (show (Term.int 3072).eval args s none [] s = some (.int 3072) from rfl)
  have hd : xs.length.toInt32 ≤ 3072 := by
    simpa [Cond.before, Cond.holds, hv] using hle
  have hN : xs.length ≤ 3072 := (Int32.ofNat_le_ofNat hsm (by decide)).mp (show Int32.ofNat xs.length ≤ Int32.ofNat 3072 from hd)
  exact ⟨b, xs, Cond.one_arg hc (show args[0]? = some (.ref b) from hb), hx, hN, h⟩
theorem lw_comes (l : Launch) (hflags : l.flags = flags0) : Comes l x (Jvm.Cond.code x code maxLocals ret :: tables_1) room_1 (fun tb e args s => Calls_1 tb e args s ∧ rest_1 tb e args s ∧ Pre_1 tb e args s)
    (fun _ _ args s o t => lw_Q args s o t) := by
  intro p e ha hc hk s m args below hf hfit hheap happ hpre
  obtain ⟨b, xs, hP⟩ := lw_pre_spec hpre.2.2 hpre.2.1
  obtain ⟨k, o, h1, h2, h3, hQ⟩ := lw_walk l hflags b xs p e ha hc hk s m args below hf ((Spec.applies_iff_loose hf).mp happ).1 hP trivial
  exact ⟨k, o, h1, h2, h3, hQ⟩
theorem lw_frame {s t : State} {o : Outcome} {args : Array Value} (h : Framed s o t [] 601024 7293034) :
    Framed s o t (fieldLocs frame_1_writes args s ++ arrayLocs frame_1_arrays args s ++ staticLocs frame_1_statics s) 601024 7293034 := h
theorem lw_limb (L : Cond) (hL : ∀ (args : Array Value) (s t : State), L.after args s (.returned (some (.int 1))) t = true) :
    ArmFor flags0 classFile x code maxLocals ret World_1 tables_1 room_1 Calls_1 rest_1 Pre_1
      (fun tb e a s o t => postC L tb e a s o t ∧ Framed s o t (fieldLocs frame_1_writes a s ++ arrayLocs frame_1_arrays a s ++ staticLocs frame_1_statics s) 601024 7293034) := by
  intro l hflags _ _ p e ha hc hk s m args below hf hfit hheap happ hpre
  obtain ⟨k, o, h1, h2, h3, rfl, hF⟩ := lw_comes l hflags p e ha hc hk s m args below hf hfit hheap happ hpre
  exact ⟨k, _, h1, h2, h3, hL args s _, lw_frame hF⟩
theorem i_vc : Claimed_1_1 ∧ Claimed_1_2 := ⟨lw_limb limb_1_1 (fun args s t => by simp [limb_1_1, Cond.after, Cond.holds, Cond.value]), lw_limb limb_1_2 (fun args s t => Cond.after_iff.mpr (by
  first | (rw [show limb_1_2 = Cond.eq .result (.int 1) from rfl, Cond.eq_ints (x := 1) (y := 1) rfl rfl]; simp; done) | (simp [limb_1_2, Cond.value, Term.eval]; done)))⟩
