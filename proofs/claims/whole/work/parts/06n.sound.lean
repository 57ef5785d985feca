/-! One step, a block, a method -/
/-- calls with d frames of room -/
def am_Clp (Γ : am_G) (l : Launch) : Nat → am_C
  | 0 => fun _ _ _ _ => False
  | d + 1 => am_Cl Γ l d
theorem am_tk_no : ∀ (k : Nat) (st acc : List Value) (f : List Value → List Value → Prop), (∀ as r, ¬ f as r) → ¬ am_tk k st acc f := by
  intro k st acc f hf h
  obtain ⟨as, r, -, -, h⟩ := am_tk_ex k st acc f h
  exact hf _ _ h
def am_not0 (i : Instr) : Bool := match i with
  | .invokestatic q => !Nat.beq (q / 2048) 0
  | _ => true
theorem am_step {Γ : am_G} {l : Launch} {mid d : Nat} {Q : am_Q} {p : Program} {e : Env} {R : Room} {s : State} {m : MethodId} {args : Array Value} {below : List Frame} {meth : Method} {c : Code} {Z : State → Prop} {K : am_K} {n h : Nat} {ls st : List Value} {w : am_W} {i : Instr} (hc : am_cx Γ l mid d Q p e R s m args below meth c Z) (hk : am_ck mid n h i) (hn0 : am_not0 i = true) (hK : ∀ n ls st w, K n ls st w → am_At Γ l mid p e R s m args below meth c Z n ls st w) (hs : am_stp (am_Clp Γ l d) (am_bd mid) Q K i n ls st w) : am_At Γ l mid p e R s m args below meth c Z n ls st w := by
  cases i
  case sipush a => exact am_c_sipush hc hk hK hs
  case bipush a => exact am_c_bipush hc hk hK hs
  case aconst_null => exact am_c_aconst_null hc hk hK hs
  case ldc a => exact am_c_ldc hc hk hK hs
  case getstatic a => exact am_c_getstatic hc hk hK hs
  case iload a => exact am_c_iload hc hk hK hs
  case lload a => exact am_c_lload hc hk hK hs
  case aload a => exact am_c_aload hc hk hK hs
  case istore a => exact am_c_istore hc hk hK hs
  case astore a => exact am_c_astore hc hk hK hs
  case lstore a => exact am_c_lstore hc hk hK hs
  case iinc a b => exact am_c_iinc hc hk hK hs
  case iadd => exact am_c_iadd hc hk hK hs
  case isub => exact am_c_isub hc hk hK hs
  case imul => exact am_c_imul hc hk hK hs
  case idiv => exact am_c_idiv hc hk hK hs
  case irem => exact am_c_irem hc hk hK hs
  case iand => exact am_c_iand hc hk hK hs
  case ior => exact am_c_ior hc hk hK hs
  case ixor => exact am_c_ixor hc hk hK hs
  case ishl => exact am_c_ishl hc hk hK hs
  case ishr => exact am_c_ishr hc hk hK hs
  case iushr => exact am_c_iushr hc hk hK hs
  case ladd => exact am_c_ladd hc hk hK hs
  case lsub => exact am_c_lsub hc hk hK hs
  case lmul => exact am_c_lmul hc hk hK hs
  case ldiv => exact am_c_ldiv hc hk hK hs
  case lrem => exact am_c_lrem hc hk hK hs
  case land => exact am_c_land hc hk hK hs
  case lor => exact am_c_lor hc hk hK hs
  case lshl => exact am_c_lshl hc hk hK hs
  case lushr => exact am_c_lushr hc hk hK hs
  case lcmp => exact am_c_lcmp hc hk hK hs
  case i2l => exact am_c_i2l hc hk hK hs
  case l2i => exact am_c_l2i hc hk hK hs
  case i2c => exact am_c_i2c hc hk hK hs
  case i2b => exact am_c_i2b hc hk hK hs
  case dup => exact am_c_dup hc hk hK hs
  case dup2 => exact am_c_dup2 hc hk hK hs
  case pop => exact am_c_pop hc hk hK hs
  case goto a => exact am_c_goto hc hk hK hs
  case ifCond a b => exact am_c_ifCond hc hk hK hs
  case if_icmp a b => exact am_c_if_icmp hc hk hK hs
  case ifnull a => exact am_c_ifnull hc hk hK hs
  case ifnonnull a => exact am_c_ifnonnull hc hk hK hs
  case tableswitch a b c d => exact am_c_tableswitch hc hk hK hs
  case lookupswitch a b => exact am_c_lookupswitch hc hk hK hs
  case getfield a => exact am_c_getfield hc hk hK hs
  case putfield a => exact am_c_putfield hc hk hK hs
  case iaload => exact am_c_iaload hc hk hK hs
  case saload => exact am_c_saload hc hk hK hs
  case baload => exact am_c_baload hc hk hK hs
  case laload => exact am_c_laload hc hk hK hs
  case aaload => exact am_c_aaload hc hk hK hs
  case iastore => exact am_c_iastore hc hk hK hs
  case bastore => exact am_c_bastore hc hk hK hs
  case lastore => exact am_c_lastore hc hk hK hs
  case aastore => exact am_c_aastore hc hk hK hs
  case arraylength => exact am_c_arraylength hc hk hK hs
  case new a => exact am_c_new hc hk hK hs
  case newarray a => exact am_c_newarray hc hk hK hs
  case anewarray a => exact am_c_anewarray hc hk hK hs
  case multianewarray a b => exact am_c_multianewarray hc hk hK hs
  case invokevirtual q =>
    cases d with
    | zero => exact (am_tk_no _ _ _ _ (fun as r h => by
        split at h
        · have h2 := h.2
          revert h2
          cases hq : (Nat.ble (am_cat r) 8) <;> exact fun h => h
        · exact h) hs).elim
    | succ d => exact am_c_invokevirtual hc hk hK hs
  case invokespecial q =>
    cases d with
    | zero => exact (am_tk_no _ _ _ _ (fun as r h => by
        split at h
        · have h2 := h.2.2
          revert h2
          cases hq : ((Nat.ble (am_cat r) 8 && (Nat.ble (w.2.2.2.2.2.1 + q / 2097152 % 1000) (am_bd mid).1 && Nat.ble (w.2.2.2.2.2.2 + q / 2097152000) (am_bd mid).2))) <;> exact fun h => h
        · exact h) hs).elim
    | succ d => exact am_c_invokespecial hc hk hK hs
  case invokestatic q =>
    have h0 : Nat.beq (q / 2048) 0 = false := by simpa [am_not0] using hn0
    cases d with
    | zero => exact (am_tk_no _ _ _ _ (fun as r h => by
        rw [h0, cond_false] at h
        revert h
        cases Nat.ble (am_cat r) 8 <;> exact fun h => h) hs).elim
    | succ d => exact am_c_invokestatic hc hk h0 hK hs
  case pop2 => exact am_c_pop2 hc hk hK hs
  case dmul => exact am_c_dmul hc hk hK hs
  case dadd => exact am_c_dadd hc hk hK hs
  case drem => exact am_c_drem hc hk hK hs
  case dneg => exact am_c_dneg hc hk hK hs
  case fmul => exact am_c_fmul hc hk hK hs
  case fadd => exact am_c_fadd hc hk hK hs
  case frem => exact am_c_frem hc hk hK hs
  case fdiv => exact am_c_fdiv hc hk hK hs
  case ireturn => exact am_c_ireturn hc hk hK hs
  case ret a => exact am_c_ret hc hk hK hs
  case lreturn => exact am_c_lreturn hc hk hK hs
  case areturn => exact am_c_areturn hc hk hK hs
  case return_ => exact am_c_return_ hc hk hK hs
  all_goals exact False.elim hs
/-- from a place of method mid, with d frames of room for its calls, it comes to its end, with Q -/
def am_Sm (Γ : am_G) (l : Launch) (d mid : Nat) (Q : am_Q) (n : Nat) (ls st : List Value) (w : am_W) : Prop :=
  ∀ (p : Program) (e : Env) (R : Room) (s : State) (m : MethodId) (args : Array Value) (below : List Frame) (meth : Method) (c : Code) (Z : State → Prop), am_cx Γ l mid d Q p e R s m args below meth c Z → am_At Γ l mid p e R s m args below meth c Z n ls st w
theorem am_ckL_at (o fl : Nat) (cc : ByteArray) (rt : Option FieldType) (pcs : List Nat) : ∀ (ps hs : List Nat) (is : List Instr), am_ckL o fl cc rt pcs ps hs is = true → ∀ n, n < is.length → am_ck1 o fl cc rt pcs (ps.getD n 0) (ps.getD (n + 1) 0) (hs.getD n 0) (am_fe is n) = true := by
  intro ps
  induction ps with
  | nil => intro hs is h n hn; cases hs <;> cases is <;> simp_all [am_ckL]
  | cons pc ps ih =>
    intro hs is h n hn
    cases hs with
    | nil => simp [am_ckL] at h
    | cons h0 hs =>
      cases is with
      | nil => simp [am_ckL] at h
      | cons i is =>
        rw [am_ckL, Bool.and_eq_true] at h
        cases n with
        | zero =>
          have h1 := h.1
          simp only [List.getD_cons_zero, List.getD_cons_succ, am_fe]
          exact h1
        | succ n =>
          simp only [List.getD_cons_succ, am_fe]
          exact ih hs is h.2 n (by simpa using hn)
theorem am_fe_out : ∀ (is : List Instr) (n : Nat), is.length ≤ n → am_fe is n = .nop := by
  intro is
  induction is with
  | nil => intro n _; rfl
  | cons i is ih => intro n hn; cases n with
    | zero => simp at hn
    | succ n => exact ih n (by simpa using hn)
theorem am_fe_mem : ∀ (is : List Instr) (n : Nat), n < is.length → am_fe is n ∈ is := by
  intro is
  induction is with
  | nil => intro n h; simp at h
  | cons i is ih => intro n h; cases n with
    | zero => exact List.mem_cons_self
    | succ n => exact List.mem_cons_of_mem _ (ih n (by simpa using h))
theorem am_no0 : (List.range 280).all (fun i => Nat.beq i 266 || (am_CL.getD i ([], [], [])).2.2.all am_not0) = true := by decide +kernel
theorem am_no0x {mid : Nat} (h : am_isM (mid - 20)) : (am_cod mid).all am_not0 = true := by
  have := List.all_eq_true.mp am_no0 _ (List.mem_range.mpr h.1)
  rw [Bool.or_eq_true] at this
  rcases this with g | g
  · exact absurd (am_beq g) h.2
  · exact g
theorem am_ck_at {mid : Nat} (hM : am_isM (mid - 20)) {n : Nat} (hn : n < (am_cod mid).length) : ∃ h, am_ck mid n h (am_fe (am_cod mid) n) := by
  have h := am_ckA hM
  unfold am_ckM at h
  simp only [Bool.and_eq_true] at h
  exact ⟨_, am_ckL_at _ _ _ _ _ _ _ _ h.1.1 n hn⟩
theorem am_block {Γ : am_G} {l : Launch} {d mid : Nat} {Q : am_Q} {stop : List Nat} (hM : am_isM (mid - 20)) : ∀ (N n : Nat) (ls st : List Value) (w : am_W), am_wp (am_cod mid) (am_Clp Γ l d) (am_bd mid) Q stop (am_Sm Γ l d mid Q) N n ls st w → am_Sm Γ l d mid Q n ls st w := by
  intro N
  induction N with
  | zero => intro n ls st w h; exact h
  | succ N ih =>
    intro n ls st w h p e R s m args below meth c Z hc
    rcases Nat.lt_or_ge n (am_cod mid).length with hn | hn
    · obtain ⟨hh, hk⟩ := am_ck_at hM hn
      refine am_step (K := fun pc' ls' st' w' => bif am_in stop pc' then am_Sm Γ l d mid Q pc' ls' st' w' else am_wp (am_cod mid) (am_Clp Γ l d) (am_bd mid) Q stop (am_Sm Γ l d mid Q) N pc' ls' st' w') hc hk (List.all_eq_true.mp (am_no0x hM) _ (am_fe_mem _ _ hn)) (fun n' ls' st' w' hq => ?_) h
      cases hi : am_in stop n' with
      | true => rw [hi, cond_true] at hq; exact hq p e R s m args below meth c Z hc
      | false => rw [hi, cond_false] at hq; exact ih n' ls' st' w' hq p e R s m args below meth c Z hc
    · have h2 : am_stp (am_Clp Γ l d) (am_bd mid) Q (fun pc' ls' st' w' => bif am_in stop pc' then am_Sm Γ l d mid Q pc' ls' st' w' else am_wp (am_cod mid) (am_Clp Γ l d) (am_bd mid) Q stop (am_Sm Γ l d mid Q) N pc' ls' st' w') (am_fe (am_cod mid) n) n ls st w := h
      rw [am_fe_out _ _ hn] at h2
      exact False.elim h2
/-- values that a method may be given -/
def am_vok : Value → Bool
  | .int _ => true
  | .long _ => true
  | .ref _ => true
  | _ => false
theorem am_nth_app : ∀ (l r : List Value) (i : Nat), am_nth (l ++ r) i = if i < l.length then am_nth l i else am_nth r (i - l.length) := by
  intro l
  induction l with
  | nil => intro r i; simp
  | cons a l ih => intro r i; cases i with
    | zero => simp [am_nth]
    | succ i =>
      simp only [List.cons_append, am_nth, ih, List.length_cons, Nat.add_lt_add_iff_right, Nat.add_sub_add_right]
theorem am_nth_rep (n i : Nat) : am_nth (List.replicate n (.retAddr 0)) i = .retAddr 0 := by
  induction n generalizing i with
  | zero => rfl
  | succ n ih => cases i with
    | zero => rfl
    | succ i => exact ih i
theorem am_ent_args {Γ : am_G} (hcat : ∀ k, (am_cv Γ (.ref k)).category = 1) : ∀ (as : List Value) (i off : Nat), (∀ v ∈ as, am_vok v = true) → (∀ n, am_nth (am_ent as) i ≠ .retAddr n) → (i + off, am_cv Γ (am_nth (am_ent as) i)) ∈ lv_args off (as.map (am_cv Γ)) := by
  intro as
  induction as with
  | nil => intro i off _ h; exact absurd rfl (h 0)
  | cons v as ih =>
    intro i off hok h
    have hv := hok v List.mem_cons_self
    have hok' : ∀ v ∈ as, am_vok v = true := fun u hu => hok u (List.mem_cons_of_mem _ hu)
    rw [List.map_cons, lv_args]
    cases v with
    | long x =>
      have e : (am_cv Γ (.long x)).category = 2 := rfl
      rw [if_pos e]
      cases i with
      | zero => rw [Nat.zero_add]; exact List.mem_cons_self
      | succ i => cases i with
        | zero => exact absurd rfl (h 0)
        | succ i =>
          have := ih i (off + 2) hok' h
          rw [show i + 1 + 1 + off = i + (off + 2) by omega]
          exact List.mem_cons_of_mem _ this
    | int x =>
      rw [if_neg (show ¬ (am_cv Γ (.int x)).category = 2 from fun hh => absurd (show (1 : Nat) = 2 from hh) (by decide))]
      cases i with
      | zero => rw [Nat.zero_add]; exact List.mem_cons_self
      | succ i =>
        have := ih i (off + 1) hok' h
        rw [show i + 1 + off = i + (off + 1) by omega]
        exact List.mem_cons_of_mem _ this
    | ref x =>
      rw [if_neg (show ¬ (am_cv Γ (.ref x)).category = 2 by rw [hcat]; decide)]
      cases i with
      | zero => rw [Nat.zero_add]; exact List.mem_cons_self
      | succ i =>
        have := ih i (off + 1) hok' h
        rw [show i + 1 + off = i + (off + 1) by omega]
        exact List.mem_cons_of_mem _ this
    | _ => cases hv
theorem am_ent_len {Γ : am_G} (hcat : ∀ k, (am_cv Γ (.ref k)).category = 1) : ∀ (as : List Value), (∀ v ∈ as, am_vok v = true) → (lg_sl (as.map (am_cv Γ))).length = (am_ent as).length := by
  intro as
  induction as with
  | nil => intro _; rfl
  | cons v as ih =>
    intro hok
    have hv := hok v List.mem_cons_self
    have := ih (fun u hu => hok u (List.mem_cons_of_mem _ hu))
    unfold lg_sl at this ⊢
    rw [List.map_cons, List.flatMap_cons, List.length_append, this]
    cases v with
    | long x => rw [if_pos (show (am_cv Γ (.long x)).category = 2 from rfl)]; simp [am_ent]; omega
    | int x => rw [if_neg (show ¬ (am_cv Γ (.int x)).category = 2 from fun hh => absurd (show (1 : Nat) = 2 from hh) (by decide))]; simp [am_ent]; omega
    | ref x => rw [if_neg (show ¬ (am_cv Γ (.ref x)).category = 2 by rw [hcat]; decide)]; simp [am_ent]; omega
    | _ => cases hv
theorem am_ent_lv {Γ : am_G} (hcat : ∀ k, (am_cv Γ (.ref k)).category = 1) {as : List Value} {n : Nat} (hok : ∀ v ∈ as, am_vok v = true) (hn : (am_ent as).length ≤ n) : am_lv Γ (am_pad (am_ent as) n) ((lg_sl (as.map (am_cv Γ)) ++ List.replicate (n - (lg_sl (as.map (am_cv Γ))).length) Slot.unset).toArray) ∧ (am_pad (am_ent as) n).length = n := by
  have h := lv_entry (as.map (am_cv Γ)) (n := n) (by rw [am_ent_len hcat as hok]; exact hn)
  have hlen : (am_pad (am_ent as) n).length = n := by simp [am_pad]; omega
  refine ⟨⟨by rw [hlen]; exact h.1, h.2.1, fun q hq => ?_⟩, hlen⟩
  obtain ⟨h1, h2, h3⟩ := am_lvl_of hq
  refine h.2.2 q ?_
  have e : am_nth (am_pad (am_ent as) n) q.1 = am_nth (am_ent as) q.1 := by
    unfold am_pad at h2 ⊢
    rw [am_nth_app] at h2 ⊢
    by_cases g : q.1 < (am_ent as).length
    · rw [if_pos g]
    · rw [if_neg g, am_nth_rep] at h2
      exact absurd rfl (h2 0)
  rw [e] at h2 h3
  have := am_ent_args hcat as q.1 0 hok h2
  rw [← h3] at this
  exact this
theorem am_in_all : (List.range 280).all (fun i => !Nat.beq (am_mi0 i).2.2.2.2.2.1 2 || decide ((am_mi0 i).1.name = "<init>")) = true := by decide +kernel
theorem am_initN {mid : Nat} (h : am_isM (mid - 20)) (hf : (am_mt mid).2.2.2.2.2.1 = 2) : (am_mt mid).1.name = "<init>" := by
  have h1 := List.all_eq_true.mp am_in_all _ (List.mem_range.mpr h.1)
  rw [Bool.or_eq_true] at h1
  rcases h1 with g | g
  · have e : Nat.beq (am_mi0 (mid - 20)).2.2.2.2.2.1 2 = true := by rw [show (am_mi0 (mid - 20)).2.2.2.2.2.1 = 2 from hf]; rfl
    rw [e] at g; cases g
  · exact of_decide_eq_true g
theorem am_enter {Γ : am_G} {l : Launch} {d mid : Nat} {Q : am_Q} {as : List Value} {w : am_W} (hM : am_isM (mid - 20)) (hok : ∀ v ∈ as, am_vok v = true) (hn : (am_ent as).length ≤ (am_mt mid).2.2.1) (hw : w.2.2.2.2.2.1 = 0 ∧ w.2.2.2.2.2.2 = 0) (hs : am_Sm Γ l d mid Q 0 (am_pad (am_ent as) (am_mt mid).2.2.1) [] w) : am_Cl Γ l d mid as w Q := by
  obtain ⟨f1, f2, f3, f4, f5, f6⟩ := am_mfx hM
  refine Met_ofWF (cc := (am_mt mid).2.1) (maxL := (am_mt mid).2.2.1) (ret := (am_mt mid).2.2.2.1) (plainFor_of_name f1) rfl ?_
  intro p e s m args below meth c s₁ B hml hv
  obtain ⟨rfl, hr, he⟩ := hv
  have hcat := am_env_cat he
  have hts : ∀ w ∈ am_ws mid, w.before _ s = true := atoms_spec (ws := am_ws mid) B.pre
  have hown : s.vm.findClass (am_Rn (am_mt mid).2.2.2.2.1) = some m.cls := by rw [← f5]; exact findClass_of_methodNamed B.named
  obtain ⟨hl, hlen⟩ := am_ent_lv hcat hok hn
  have hpc : (am_ct mid).1.getD 0 0 = 0 := by
    have := am_ckA hM
    unfold am_ckM at this
    simp only [Bool.and_eq_true] at this
    have h1 : (am_ct mid).1.getD 0 1 = 0 := am_beq this.2
    cases hq : (am_ct mid).1 with
    | nil => rfl
    | cons a b => rw [hq] at h1; exact h1
  have hsz : Γ.2.2.1 + 1 ≤ s.heap.size := by
    have h1 := hr.1.2.1.1
    have h2 := hr.2.2.2.1
    omega
  have hQ : ∀ (r : List Value) (w : am_W) (H : Heap) (locs : List Loc) (pc : Nat) (lc : Array Slot), Q r w → am_rep Γ w H → am_cn mid w → va_S (am_A Γ) s.heap H locs → am_rt (am_mt mid).2.1 (am_mt mid).2.2.2.1 pc r → W p l e (am_rm d mid) s m ((as.map (am_cv Γ)).toArray) below meth c H locs w.2.2.2.2.2.1 w.2.2.2.2.2.2 (MQ below (am_Qc Γ Q) ((as.map (am_cv Γ)).toArray) s (am_bd mid).1 (am_bd mid).2 (am_A Γ)) (F0 m pc lc (r.map (am_cv Γ))) := by
    intro r w' H locs pc lc hq hrep hcn hS hrt
    refine W.widen hcn.1 hcn.2 ?_
    have hF : ∀ t : State, t.heap = H → va_F (am_A Γ) s t := fun t ht => hS.F ht
    have hend : ∀ t : State, t.heap = H → am_Qc Γ Q ((as.map (am_cv Γ)).toArray) s (.returned ((r.map (am_cv Γ)).head?)) t := fun t ht => ⟨⟨r, w', rfl, by
      unfold am_rt at hrt
      split at hrt <;> first | exact hrt.elim | simp, hq, by rw [ht]; exact hrep⟩, hF t ht⟩
    unfold am_rt at hrt
    split at hrt
    · exact W.vret B.exec B.bytes (B.returns.trans hrt.2) (fun t ht _ => hend t ht) hS.2.2 hrt.1 B.notSynchronized
    · obtain ⟨h1, ty, h2, h3⟩ := hrt
      exact W.zret B.exec B.bytes (B.returns.trans h2) h3 (fun t ht _ => hend t ht) hS.2.2 h1 B.notSynchronized
    · exact W.lret B.exec B.bytes (B.returns.trans hrt.2) (fun t ht _ => hend t ht) hS.2.2 hrt.1 B.notSynchronized
    · rename_i x
      exact W.aret B.exec B.bytes (B.returns.trans hrt.2.1) (Or.inr ⟨_, rfl⟩) (am_cv_ref he x) (fun t ht _ => hend t ht) hS.2.2 hrt.1 B.notSynchronized
    · exact hrt.elim
  have hfr : d + 1 ≤ (am_rm d mid).frames := Nat.le_refl _
  have K := hs p e (am_rm d mid) s m ((as.map (am_cv Γ)).toArray) below meth c (MQ below (am_Qc Γ Q) ((as.map (am_cv Γ)).toArray) s (am_bd mid).1 (am_bd mid).2 (am_A Γ)) ⟨B.exec, B.bytes, hml, hown, fun w hw => hts w (List.mem_cons_of_mem _ hw), he, fun h2 => (name_of_methodNamed B.named B.method).1.trans (am_initN hM h2), hfr, Nat.le_refl _, Nat.le_refl _, Nat.le_refl _, hsz, hQ⟩ s.heap [] _ hr ⟨by rw [hw.1]; exact Nat.zero_le _, by rw [hw.2]; exact Nat.zero_le _⟩ ⟨Nat.le_refl _, fun q _ _ => rfl, fun q hq => by cases hq⟩ hl hlen
  rw [hpc, hw.1, hw.2] at K
  rw [lg_entry_eq]
  exact K
