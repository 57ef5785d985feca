/-! the constructors, run: a world is what a list of deeds makes of a base world (tag 0: a new cell of kind x, size y; 1: an int; 2: a reference; 3: counts; 4: a table of rows), latest first -/
abbrev cr_D : Type := List (Nat × Nat × Nat × Int)
abbrev cr_S : Type := cr_D × Nat × Nat × Nat
def cr_w (b : am_W) : cr_D → am_W
  | [] => b
  | (t, x, y, v) :: l => match t with
    | 0 => am_new (cr_w b l) x y
    | 1 => am_sI (cr_w b l) (am_u (cr_w b l).2.1 x y (Int32.ofInt v))
    | 2 => am_sR (cr_w b l) (am_u (cr_w b l).2.2.2.1 x y v.toNat)
    | 3 => am_zc (cr_w b l) x y
    | _ => am_w5 (cr_w b l)
/-- the next cell and the counts are what the list makes of them -/
def cr_ok (b : am_W) (S : cr_S) : Prop := (cr_w b S.1).2.2.2.2 = (S.2.1, S.2.2.1, S.2.2.2) ∧ (cr_w b S.1).2.1 5101 1 = 0
/-- kind and size of a cell; nx: the next cell -/
def cr_sh : cr_D → Nat → Nat → Nat × Nat
  | [], _, a => bif Nat.blt a 5000 then (0, 0) else x_s0 a
  | (t, x, y, _) :: l, nx, a => match t with
    | 0 => bif Nat.beq (a + 1) nx then (x, y) else cr_sh l (nx - 1) a
    | 1 => cr_sh l nx a
    | 2 => cr_sh l nx a
    | 3 => cr_sh l nx a
    | _ => bif Nat.ble (nx - 4) a && Nat.blt a nx then (100, 8) else bif Nat.beq (a + 5) nx then (106, 4) else cr_sh l (nx - 5) a
/-- a reference field -/
def cr_R : cr_D → Nat → Nat → Nat → Nat
  | [], _, a, k => bif Nat.blt a 5000 then 0 else x_r0 a k
  | (t, x, y, v) :: l, nx, a, k => match t with
    | 0 => bif Nat.beq (a + 1) nx then 0 else cr_R l (nx - 1) a k
    | 1 => cr_R l nx a k
    | 2 => bif Nat.beq a x && Nat.beq k y then v.toNat else cr_R l nx a k
    | 3 => cr_R l nx a k
    | _ => bif Nat.beq (a + 5) nx then (bif Nat.blt k 4 then nx - 4 + k else 0) else bif Nat.ble (nx - 4) a && Nat.blt a nx then 0 else cr_R l (nx - 5) a k
/-- the base: nothing below 5000 -/
def cr_b (n : Nat) (b : am_W) : Prop := (∀ a, a < 5000 → b.1 a = (0, 0) ∧ (∀ k, b.2.1 a k = 0) ∧ (∀ k, b.2.2.1 a k = 0) ∧ ∀ k, b.2.2.2.1 a k = 0) ∧ (∀ a, 5000 ≤ a → b.1 a = x_sh n a ∧ ∀ k, b.2.2.2.1 a k = x_r0 a k) ∧ b.2.2.2.2 = (1, 0, 0) ∧ b.2.1 5101 1 = 0
def cr_br (c : ClassFile.Cond) (x y : Int32) : Bool := match c with
  | .eq => decide (x = y)
  | .ne => !decide (x = y)
  | .lt => decide (x < y)
  | .ge => decide (y ≤ x)
  | .gt => decide (y < x)
  | .le => decide (x ≤ y)
/-- one instruction but calls and ends -/
def cr_st (bd : Nat × Nat) (i : Instr) (pc : Nat) (ls st : List Value) (S : cr_S) : Option (Nat × List Value × List Value × cr_S) := match i with
  | .sipush v => some (pc + 1, ls, .int (Int32.ofInt v) :: st, S)
  | .aconst_null => some (pc + 1, ls, .ref 0 :: st, S)
  | .ldc a => some (pc + 1, ls, .ref a :: st, S)
  | .iload n => match am_nth ls n with
    | .int x => some (pc + 1, ls, .int x :: st, S)
    | _ => none
  | .aload n => match am_nth ls n with
    | .ref x => some (pc + 1, ls, .ref x :: st, S)
    | _ => none
  | .istore n => match st with
    | .int x :: r => bif am_okst ls n then some (pc + 1, am_set ls n (.int x), r, S) else none
    | _ => none
  | .astore n => match st with
    | .ref x :: r => bif am_okst ls n then some (pc + 1, am_set ls n (.ref x), r, S) else none
    | _ => none
  | .iinc n c => match am_nth ls n with
    | .int x => bif am_prv ls n then some (pc + 1, am_set ls n (.int (x + Int32.ofInt c)), st, S) else none
    | _ => none
  | .dup => match st with
    | .ref a :: r => some (pc + 1, ls, .ref a :: .ref a :: r, S)
    | _ => none
  | .goto t => some (t.toNat, ls, st, S)
  | .ifCond c t => match st with
    | .int x :: r => bif cr_br c x 0 then some (t.toNat, ls, r, S) else some (pc + 1, ls, r, S)
    | _ => none
  | .if_icmp c t => match st with
    | .int y :: .int x :: r => bif cr_br c x y then some (t.toNat, ls, r, S) else some (pc + 1, ls, r, S)
    | _ => none
  | .ishr => match st with
    | .int y :: .int x :: r => some (pc + 1, ls, .int (x >>> (y &&& 31)) :: r, S)
    | _ => none
  | .getfield q => match st with
    | .ref a :: r => bif Nat.beq (cr_sh S.1 S.2.1 a).1 (q / 256) && !Nat.beq a 6000 then (bif Nat.beq (q % 4) 2 then some (pc + 1, ls, .ref (cr_R S.1 S.2.1 a (q / 4 % 64)) :: r, S) else bif Nat.beq a 5101 && (Nat.beq (q / 4 % 64) 1 && Nat.beq (q % 4) 0) then some (pc + 1, ls, .int 0 :: r, S) else none) else none
    | _ => none
  | .putfield q => bif Nat.beq (q % 4) 2 then (match st with
    | .ref x :: .ref a :: r => bif Nat.beq (cr_sh S.1 S.2.1 a).1 (q / 256) && !Nat.beq a 6000 then some (pc + 1, ls, r, ((2, a, q / 4 % 64, (x : Int)) :: S.1, S.2)) else none
    | _ => none) else bif Nat.beq (q % 4) 1 then none else (match st with
    | .int x :: .ref a :: r => bif (Nat.beq (cr_sh S.1 S.2.1 a).1 (q / 256) && (!Nat.beq a 6000 && !Nat.beq a 5101)) && (!Nat.beq (q % 4) 3 || (decide (x = 0) || decide (x = 1))) then some (pc + 1, ls, r, ((1, a, q / 4 % 64, x.toInt) :: S.1, S.2)) else none
    | _ => none)
  | .arraylength => match st with
    | .ref a :: r => bif (Nat.ble 100 (cr_sh S.1 S.2.1 a).1 && Nat.ble (cr_sh S.1 S.2.1 a).1 202) && !Nat.beq a 6000 then some (pc + 1, ls, .int (Int32.ofNat (cr_sh S.1 S.2.1 a).2) :: r, S) else none
    | _ => none
  | .aastore => match st with
    | .ref x :: .int i :: .ref a :: r => bif (((Nat.beq (cr_sh S.1 S.2.1 a).1 104 && Nat.beq (cr_sh S.1 S.2.1 x).1 1) || (Nat.beq (cr_sh S.1 S.2.1 a).1 105 && Nat.beq (cr_sh S.1 S.2.1 x).1 8)) && (!decide (i < 0) && Nat.blt i.toNatClampNeg (cr_sh S.1 S.2.1 a).2)) && (!Nat.beq a 6000 && !Nat.beq x 6000) then some (pc + 1, ls, r, ((2, a, i.toNatClampNeg, (x : Int)) :: S.1, S.2)) else none
    | _ => none
  | .new q => bif Nat.blt S.2.1 204 && (Nat.blt S.2.2.1 bd.1 && Nat.ble (S.2.2.2 + q % 64) bd.2) then some (pc + 1, ls, .ref S.2.1 :: st, ((0, q / 64, q % 64, 0) :: S.1, S.2.1 + 1, S.2.2.1 + 1, S.2.2.2 + q % 64)) else none
  | .newarray t => match st with
    | .int n :: r => bif (Nat.blt S.2.1 204 && (Nat.blt S.2.2.1 bd.1 && Nat.ble (S.2.2.2 + n.toNatClampNeg) bd.2)) && (decide (0 ≤ n) && decide (n ≤ 20000)) then some (pc + 1, ls, .ref S.2.1 :: r, ((0, (match t with | .int => 100 | .long => 101 | .byte => 102 | _ => 103), n.toNatClampNeg, 0) :: S.1, S.2.1 + 1, S.2.2.1 + 1, S.2.2.2 + n.toNatClampNeg)) else none
    | _ => none
  | .anewarray c => match st with
    | .int n :: r => bif (Nat.blt S.2.1 204 && (Nat.blt S.2.2.1 bd.1 && Nat.ble (S.2.2.2 + n.toNatClampNeg) bd.2)) && (decide (0 ≤ n) && decide (n ≤ 20000)) then some (pc + 1, ls, .ref S.2.1 :: r, ((0, c, n.toNatClampNeg, 0) :: S.1, S.2.1 + 1, S.2.2.1 + 1, S.2.2.2 + n.toNatClampNeg)) else none
    | _ => none
  | .multianewarray _ _ => match st with
    | .int m :: .int n :: r => bif (Nat.blt (S.2.1 + 4) 204 && (Nat.blt (S.2.2.1 + 4) bd.1 && Nat.ble (S.2.2.2 + 36) bd.2)) && (decide (n = 4) && decide (m = 8)) then some (pc + 1, ls, .ref S.2.1 :: r, ((4, 0, 0, 0) :: S.1, S.2.1 + 5, S.2.2.1 + 5, S.2.2.2 + 36)) else none
    | _ => none
  | .pop2 => match st with
    | .ref a :: r => bif (Nat.ble 1 a && Nat.blt a 5000) && Nat.ble (am_cat r) 8 then some (pc + 1, ls, r, S) else none
    | _ => none
  | _ => none
def cr_tk : Nat → List Value → List Value → Option (List Value × List Value)
  | 0, st, acc => some (acc, st)
  | _ + 1, [], _ => none
  | n + 1, v :: st, acc => cr_tk n st (v :: acc)
noncomputable def cr_in (m2 : Nat) (as : List Value) : Bool := Nat.blt (m2 - 20) 280 && !Nat.beq (m2 - 20) 266 && (as.all am_vok && Nat.ble (am_ent as).length (am_mt m2).2.2.1)
def cr_cl (i : Instr) : Nat × Nat := match i with
  | .return_ => (0, 0)
  | .ireturn => (1, 0)
  | .ret t => (2, t)
  | .invokespecial q => (3, q)
  | .invokevirtual q => (4, q)
  | _ => (5, 0)
/-- calls: the stack and the world behind them -/
noncomputable def cr_sp (rec : Nat → List Value → cr_S → Option (List Value × cr_S)) (bd : Nat × Nat) (q : Nat) (st : List Value) (S : cr_S) : Option (List Value × cr_S) := match cr_tk (q / 128 % 16) st [] with
  | some (.ref a :: as, r) => bif (Nat.ble 1 a && Nat.blt a 5000) && (Nat.ble (am_cat r) 8 && (Nat.ble (S.2.2.1 + q / 2097152 % 1000) bd.1 && Nat.ble (S.2.2.2 + q / 2097152000) bd.2)) && cr_in (q / 2048 % 1024) (.ref a :: as) then
      (match rec (q / 2048 % 1024) (am_pad (am_ent (.ref a :: as)) (am_mt (q / 2048 % 1024)).2.2.1) ((3, 0, 0, 0) :: S.1, S.2.1, 0, 0) with
      | some (v, S') => some (v ++ r, (3, S.2.2.1 + q / 2097152 % 1000, S.2.2.2 + q / 2097152000, 0) :: S'.1, S'.2.1, S.2.2.1 + q / 2097152 % 1000, S.2.2.2 + q / 2097152000)
      | none => none) else none
  | _ => none
noncomputable def cr_vi (rec : Nat → List Value → cr_S → Option (List Value × cr_S)) (q : Nat) (st : List Value) (S : cr_S) : Option (List Value × cr_S) := match cr_tk (q / 128 % 16) st [] with
  | some (.ref a :: as, r) => bif (Nat.beq (cr_sh S.1 S.2.1 a).1 (q % 128) && !Nat.beq a 6000) && Nat.ble (am_cat r) 8 && cr_in (q / 2048) (.ref a :: as) then
      (match rec (q / 2048) (am_pad (am_ent (.ref a :: as)) (am_mt (q / 2048)).2.2.1) ((3, 0, 0, 0) :: S.1, S.2.1, 0, 0) with
      | some (v, S') => some (v ++ r, (3, S.2.2.1, S.2.2.2, 0) :: S'.1, S'.2.1, S.2.2.1, S.2.2.2)
      | none => none) else none
  | _ => none
/-- one place of a method: an end, a call, or another instruction -/
noncomputable def cr_body (rec : Nat → Nat → List Value → cr_S → Option (List Value × cr_S)) (nxt : Nat → Nat → List Value → List Value → cr_S → Option (List Value × cr_S)) (bd : Nat × Nat) (i : Instr) (dp pc : Nat) (ls st : List Value) (S : cr_S) : Option (List Value × cr_S) := match (cr_cl i).1 with
    | 0 => match st with
      | [] => some ([], S)
      | _ => none
    | 1 => match st with
      | [.int x] => some ([.int x], S)
      | _ => none
    | 2 => match st with
      | [.int x] => bif Nat.beq (cr_cl i).2 2 && decide (x.toInt8.toInt32 = x) then some ([.int x], S) else none
      | _ => none
    | 3 => match dp with
      | 0 => none
      | dp' + 1 => match cr_sp (rec dp') bd (cr_cl i).2 st S with
        | some (st', S') => nxt (dp' + 1) (pc + 1) ls st' S'
        | none => none
    | 4 => match dp with
      | 0 => none
      | dp' + 1 => match cr_vi (rec dp') (cr_cl i).2 st S with
        | some (st', S') => nxt (dp' + 1) (pc + 1) ls st' S'
        | none => none
    | _ => match cr_st bd i pc ls st S with
      | some (pc', ls', st', S') => nxt dp pc' ls' st' S'
      | none => none
/-- a method from a place to its end -/
noncomputable def cr_run : Nat → Nat → Nat → Nat → List Value → List Value → cr_S → Option (List Value × cr_S)
  | 0 => fun _ _ _ _ _ _ => none
  | n + 1 => fun dp mid pc ls st S => cr_body (fun dp' m ls S => cr_run n dp' m 0 ls [] S) (fun dp pc ls st S => cr_run n dp mid pc ls st S) (am_bd mid) (am_fe (am_cod mid) pc) dp pc ls st S
/-- the law's own first rows, up to its loop -/
noncomputable def cr_law : Nat → Nat → List Value → List Value → cr_S → Option (List Value × List Value × cr_S)
  | 0, _, _, _, _ => none
  | n + 1, pc, ls, st, S => bif Nat.beq pc 13 then some (ls, st, S) else bif !Nat.blt pc 13 then none else match (cr_cl (am_fe (am_cod 286) pc)).1 with
    | 3 => match cr_sp (fun m ls S => cr_run 900 5 m 0 ls [] S) (am_bd 286) (cr_cl (am_fe (am_cod 286) pc)).2 st S with
      | some (st', S') => cr_law n (pc + 1) ls st' S'
      | none => none
    | _ => match cr_st (am_bd 286) (am_fe (am_cod 286) pc) pc ls st S with
      | some (pc', ls', st', S') => cr_law n pc' ls' st' S'
      | none => none
noncomputable def cr_end : Option (List Value × List Value × cr_S) := cr_law 20 0 [.ref 6000, .retAddr 0, .retAddr 0, .retAddr 0, .retAddr 0, .retAddr 0, .retAddr 0] [] ([], 1, 0, 0)
theorem cr_end_ok : (cr_end.map fun x => (x.1, x.2.1, x.2.2.2)) = some ([.ref 6000, .ref 1, .ref 179, .ref 203, .int 0, .retAddr 0, .retAddr 0], [], 204, 203, 30530) := by decide +kernel
