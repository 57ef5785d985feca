/-! An abstract machine over the library's instructions, their operands resolved: a world is the shapes of cells (kind, size), ints, longs, references (0: null) and the next free cell. -/
abbrev am_W : Type := (Nat → Nat × Nat) × (Nat → Nat → Int32) × (Nat → Nat → Int64) × (Nat → Nat → Nat) × Nat × Nat × Nat
def am_u {α : Type} (f : Nat → Nat → α) (a k : Nat) (v : α) : Nat → Nat → α := fun b j => if b = a then (if j = k then v else f b j) else f b j
abbrev am_sI (w : am_W) (I : Nat → Nat → Int32) : am_W := (w.1, I, w.2.2.1, w.2.2.2.1, w.2.2.2.2)
abbrev am_sL (w : am_W) (L : Nat → Nat → Int64) : am_W := (w.1, w.2.1, L, w.2.2.2.1, w.2.2.2.2)
abbrev am_sR (w : am_W) (R : Nat → Nat → Nat) : am_W := (w.1, w.2.1, w.2.2.1, R, w.2.2.2.2)
/-- the same cells, other counts of what the method that runs has made -/
abbrev am_zc (w : am_W) (c n : Nat) : am_W := (w.1, w.2.1, w.2.2.1, w.2.2.2.1, w.2.2.2.2.1, c, n)
/-- a new cell: kind, size; all 0 -/
def am_new (w : am_W) (kd n : Nat) : am_W := (fun a => if a = w.2.2.2.2.1 then (kd, n) else w.1 a, fun a k => if a = w.2.2.2.2.1 then 0 else w.2.1 a k, fun a k => if a = w.2.2.2.2.1 then 0 else w.2.2.1 a k, fun a k => if a = w.2.2.2.2.1 then 0 else w.2.2.2.1 a k, w.2.2.2.2.1 + 1, w.2.2.2.2.2.1 + 1, w.2.2.2.2.2.2 + n)
/-- rows of a table: n int arrays of m cells from the next free cell on -/
def am_rows (w : am_W) (m : Nat) : Nat → am_W
  | 0 => w
  | n + 1 => am_new (am_rows w m n) 100 m
/-- arraycopy -/
def am_cpI (I : Nat → Nat → Int32) (a0 a sp dp n : Nat) : Nat → Nat → Int32 := fun b j => if b = a then va_cpy (I a0) (I a) sp dp n j else I b j
def am_nth : List Value → Nat → Value
  | [], _ => .retAddr 0
  | a :: _, 0 => a
  | _ :: l, n + 1 => am_nth l n
def am_fe : List Instr → Nat → Instr
  | [], _ => .nop
  | a :: _, 0 => a
  | _ :: l, n + 1 => am_fe l n
def am_set : List Value → Nat → Value → List Value
  | [], _, _ => []
  | _ :: l, 0, v => v :: l
  | a :: l, n + 1, v => a :: am_set l n v
def am_lng : Value → Bool
  | .long _ => true
  | .double _ => true
  | _ => false
def am_inr : List Value → Nat → Bool
  | [], _ => false
  | _ :: _, 0 => true
  | _ :: l, n + 1 => am_inr l n
def am_prv (ls : List Value) : Nat → Bool
  | 0 => true
  | n + 1 => !am_lng (am_nth ls n)
/-- a store is among the locals, and isn't over a long's second half -/
def am_okst (ls : List Value) (n : Nat) : Bool := am_inr ls n && am_prv ls n
def am_pi (st : List Value) (f : Int32 → List Value → Prop) : Prop := match st with
  | .int x :: r => f x r
  | _ => False
def am_pl (st : List Value) (f : Int64 → List Value → Prop) : Prop := match st with
  | .long x :: r => f x r
  | _ => False
def am_pr (st : List Value) (f : Nat → List Value → Prop) : Prop := match st with
  | .ref x :: r => f x r
  | _ => False
def am_p1 (st : List Value) (f : Value → List Value → Prop) : Prop := match st with
  | .int x :: r => f (.int x) r
  | .ref x :: r => f (.ref x) r
  | _ => False
def am_cat : List Value → Nat
  | [] => 0
  | .long _ :: l => am_cat l + 2
  | .double _ :: l => am_cat l + 2
  | _ :: l => am_cat l + 1
def am_in : List Nat → Nat → Bool
  | [], _ => false
  | a :: l, x => Nat.beq a x || am_in l x
def am_fv (w : am_W) (kd a k : Nat) : Value := match kd with
  | 1 => .long (w.2.2.1 a k)
  | 2 => .ref (w.2.2.2.1 a k)
  | _ => .int (w.2.1 a k)
def am_ent : List Value → List Value
  | [] => []
  | .long x :: l => .long x :: .retAddr 0 :: am_ent l
  | v :: l => v :: am_ent l
def am_pad (l : List Value) (n : Nat) : List Value := l ++ List.replicate (n - l.length) (.retAddr 0)
def am_tk : Nat → List Value → List Value → (List Value → List Value → Prop) → Prop
  | 0, st, acc, f => f acc st
  | _ + 1, [], _, _ => False
  | n + 1, v :: st, acc, f => am_tk n st (v :: acc) f
def am_tab (x lo : Int) : List Int → Int → Int
  | [], d => d
  | t :: l, d => if x = lo then t else am_tab x (lo + 1) l d
def am_lkp (x : Int) : List (Int × Int) → Int → Int
  | [], d => d
  | q :: l, d => if x = q.1 then q.2 else am_lkp x l d
def am_brc (c : ClassFile.Cond) (x y : Int32) : Prop := match c with
  | .eq => x = y
  | .ne => ¬ x = y
  | .lt => x < y
  | .ge => y ≤ x
  | .gt => y < x
  | .le => x ≤ y
def am_brn (c : ClassFile.Cond) (x y : Int32) : Prop := match c with
  | .eq => ¬ x = y
  | .ne => x = y
  | .lt => ¬ x < y
  | .ge => ¬ y ≤ x
  | .gt => ¬ y < x
  | .le => ¬ x ≤ y
/-- Math.floorMod -/
def am_fm (x y : Int32) : Int32 := if (x ^^^ y) < 0 ∧ ¬ (x - x / y * y) = 0 then (x - x / y * y) + y else x - x / y * y
abbrev am_K : Type := Nat → List Value → List Value → am_W → Prop
abbrev am_Q : Type := List Value → am_W → Prop
abbrev am_C : Type := Nat → List Value → am_W → am_Q → Prop
/-- one instruction, goal first -/
def am_stp (Cl : am_C) (bd : Nat × Nat) (Q : am_Q) (K : am_K) (i : Instr) (pc : Nat) (ls st : List Value) (w : am_W) : Prop := match i with
  | .sipush v => K (pc + 1) ls (.int (Int32.ofInt v) :: st) w
  | .bipush v => K (pc + 1) ls (.long (Int64.ofInt v) :: st) w
  | .aconst_null => K (pc + 1) ls (.ref 0 :: st) w
  | .ldc a => K (pc + 1) ls (.ref a :: st) w
  | .getstatic a => K (pc + 1) ls (.ref a :: st) w
  | .iload n => match am_nth ls n with
    | .int x => K (pc + 1) ls (.int x :: st) w
    | _ => False
  | .lload n => match am_nth ls n with
    | .long x => K (pc + 1) ls (.long x :: st) w
    | _ => False
  | .aload n => match am_nth ls n with
    | .ref x => K (pc + 1) ls (.ref x :: st) w
    | _ => False
  | .istore n => am_pi st fun x r => bif am_okst ls n then K (pc + 1) (am_set ls n (.int x)) r w else False
  | .astore n => am_pr st fun x r => bif am_okst ls n then K (pc + 1) (am_set ls n (.ref x)) r w else False
  | .lstore n => am_pl st fun x r => bif am_okst ls n && am_inr ls (n + 1) then K (pc + 1) (am_set (am_set ls n (.long x)) (n + 1) (.retAddr 0)) r w else False
  | .iinc n c => match am_nth ls n with
    | .int x => bif am_prv ls n then K (pc + 1) (am_set ls n (.int (x + Int32.ofInt c))) st w else False
    | _ => False
  | .iadd => am_pi st fun y r => am_pi r fun x r => K (pc + 1) ls (.int (x + y) :: r) w
  | .isub => am_pi st fun y r => am_pi r fun x r => K (pc + 1) ls (.int (x - y) :: r) w
  | .imul => am_pi st fun y r => am_pi r fun x r => K (pc + 1) ls (.int (x * y) :: r) w
  | .idiv => am_pi st fun y r => am_pi r fun x r => ¬ y = 0 ∧ K (pc + 1) ls (.int (x / y) :: r) w
  | .irem => am_pi st fun y r => am_pi r fun x r => ¬ y = 0 ∧ K (pc + 1) ls (.int (x - x / y * y) :: r) w
  | .iand => am_pi st fun y r => am_pi r fun x r => K (pc + 1) ls (.int (x &&& y) :: r) w
  | .ior => am_pi st fun y r => am_pi r fun x r => K (pc + 1) ls (.int (x ||| y) :: r) w
  | .ixor => am_pi st fun y r => am_pi r fun x r => K (pc + 1) ls (.int (x ^^^ y) :: r) w
  | .ishl => am_pi st fun y r => am_pi r fun x r => K (pc + 1) ls (.int (x <<< (y &&& 31)) :: r) w
  | .ishr => am_pi st fun y r => am_pi r fun x r => K (pc + 1) ls (.int (x >>> (y &&& 31)) :: r) w
  | .iushr => am_pi st fun y r => am_pi r fun x r => K (pc + 1) ls (.int (x.toUInt32 >>> (y.toUInt32 &&& Int32.toUInt32 31)).toInt32 :: r) w
  | .ladd => am_pl st fun y r => am_pl r fun x r => K (pc + 1) ls (.long (x + y) :: r) w
  | .lsub => am_pl st fun y r => am_pl r fun x r => K (pc + 1) ls (.long (x - y) :: r) w
  | .lmul => am_pl st fun y r => am_pl r fun x r => K (pc + 1) ls (.long (x * y) :: r) w
  | .ldiv => am_pl st fun y r => am_pl r fun x r => ¬ y = 0 ∧ K (pc + 1) ls (.long (x / y) :: r) w
  | .lrem => am_pl st fun y r => am_pl r fun x r => ¬ y = 0 ∧ K (pc + 1) ls (.long (x - x / y * y) :: r) w
  | .land => am_pl st fun y r => am_pl r fun x r => K (pc + 1) ls (.long (x &&& y) :: r) w
  | .lor => am_pl st fun y r => am_pl r fun x r => K (pc + 1) ls (.long (x ||| y) :: r) w
  | .lshl => am_pi st fun y r => am_pl r fun x r => K (pc + 1) ls (.long (x <<< (y.toInt64 &&& 63)) :: r) w
  | .lushr => am_pi st fun y r => am_pl r fun x r => K (pc + 1) ls (.long (x.toUInt64 >>> (y.toInt64.toUInt64 &&& Int64.toUInt64 63)).toInt64 :: r) w
  | .lcmp => am_pl st fun y r => am_pl r fun x r => K (pc + 1) ls (.int (lg_cmp x y) :: r) w
  | .i2l => am_pi st fun x r => K (pc + 1) ls (.long x.toInt64 :: r) w
  | .l2i => am_pl st fun x r => K (pc + 1) ls (.int x.toInt32 :: r) w
  | .i2c => am_pi st fun x r => K (pc + 1) ls (.int (x.toUInt32 % 65536).toInt32 :: r) w
  | .i2b => am_pi st fun x r => K (pc + 1) ls (.int x.toInt8.toInt32 :: r) w
  | .dup => am_p1 st fun v r => K (pc + 1) ls (v :: v :: r) w
  | .dup2 => am_p1 st fun v r => am_p1 r fun u r => K (pc + 1) ls (v :: u :: v :: u :: r) w
  | .pop => am_p1 st fun _ r => K (pc + 1) ls r w
  | .goto t => K t.toNat ls st w
  | .ifCond c t => am_pi st fun x r => (am_brc c x 0 → K t.toNat ls r w) ∧ (am_brn c x 0 → K (pc + 1) ls r w)
  | .if_icmp c t => am_pi st fun y r => am_pi r fun x r => (am_brc c x y → K t.toNat ls r w) ∧ (am_brn c x y → K (pc + 1) ls r w)
  | .ifnull t => am_pr st fun x r => x < 5000 ∧ (x = 0 → K t.toNat ls r w) ∧ (¬ x = 0 → K (pc + 1) ls r w)
  | .ifnonnull t => am_pr st fun x r => x < 5000 ∧ (¬ x = 0 → K t.toNat ls r w) ∧ (x = 0 → K (pc + 1) ls r w)
  | .tableswitch d lo _ ts => am_pi st fun x r => K (am_tab x.toInt lo ts.toList d).toNat ls r w
  | .lookupswitch d ps => am_pi st fun x r => K (am_lkp x.toInt ps.toList d).toNat ls r w
  | .getfield q => am_pr st fun a r => (w.1 a).1 = q / 256 ∧ K (pc + 1) ls (am_fv w (q % 4) a (q / 4 % 64) :: r) w
  | .putfield q => match q % 4 with
    | 1 => am_pl st fun x r => am_pr r fun a r => (w.1 a).1 = q / 256 ∧ K (pc + 1) ls r (am_sL w (am_u w.2.2.1 a (q / 4 % 64) x))
    | 2 => am_pr st fun x r => am_pr r fun a r => (w.1 a).1 = q / 256 ∧ K (pc + 1) ls r (am_sR w (am_u w.2.2.2.1 a (q / 4 % 64) x))
    | 3 => am_pi st fun x r => am_pr r fun a r => (w.1 a).1 = q / 256 ∧ (x = 0 ∨ x = 1) ∧ K (pc + 1) ls r (am_sI w (am_u w.2.1 a (q / 4 % 64) x))
    | _ => am_pi st fun x r => am_pr r fun a r => (w.1 a).1 = q / 256 ∧ K (pc + 1) ls r (am_sI w (am_u w.2.1 a (q / 4 % 64) x))
  | .iaload => am_pi st fun i r => am_pr r fun a r => ((w.1 a).1 = 100 ∧ vp_in i (w.1 a).2) ∧ K (pc + 1) ls (.int (w.2.1 a i.toNatClampNeg) :: r) w
  | .saload => am_pi st fun i r => am_pr r fun a r => ((w.1 a).1 = 200 ∧ vp_in i (w.1 a).2) ∧ K (pc + 1) ls (.int (w.2.1 a i.toNatClampNeg) :: r) w
  | .baload => am_pi st fun i r => am_pr r fun a r => (((w.1 a).1 = 102 ∨ (w.1 a).1 = 103 ∨ (w.1 a).1 = 202) ∧ vp_in i (w.1 a).2) ∧ K (pc + 1) ls (.int (w.2.1 a i.toNatClampNeg) :: r) w
  | .laload => am_pi st fun i r => am_pr r fun a r => ((w.1 a).1 = 101 ∧ vp_in i (w.1 a).2) ∧ K (pc + 1) ls (.long (w.2.2.1 a i.toNatClampNeg) :: r) w
  | .aaload => am_pi st fun i r => am_pr r fun a r => (((w.1 a).1 = 104 ∨ (w.1 a).1 = 105 ∨ (w.1 a).1 = 106) ∧ vp_in i (w.1 a).2) ∧ K (pc + 1) ls (.ref (w.2.2.2.1 a i.toNatClampNeg) :: r) w
  | .iastore => bif Nat.ble 204 w.2.2.2.2.1 then am_pi st fun x r => am_pi r fun i r => am_pr r fun a r => ((w.1 a).1 = 100 ∧ vp_in i (w.1 a).2) ∧ K (pc + 1) ls r (am_sI w (am_u w.2.1 a i.toNatClampNeg x)) else False
  | .bastore => bif Nat.ble 204 w.2.2.2.2.1 then am_pi st fun x r => am_pi r fun i r => am_pr r fun a r => (((w.1 a).1 = 102 ∧ vp_in i (w.1 a).2) ∧ K (pc + 1) ls r (am_sI w (am_u w.2.1 a i.toNatClampNeg x.toInt8.toInt32))) ∨ (((w.1 a).1 = 103 ∧ vp_in i (w.1 a).2) ∧ (x = 0 ∨ x = 1) ∧ K (pc + 1) ls r (am_sI w (am_u w.2.1 a i.toNatClampNeg x))) else False
  | .lastore => bif Nat.ble 204 w.2.2.2.2.1 then am_pl st fun x r => am_pi r fun i r => am_pr r fun a r => ((w.1 a).1 = 101 ∧ vp_in i (w.1 a).2) ∧ K (pc + 1) ls r (am_sL w (am_u w.2.2.1 a i.toNatClampNeg x)) else False
  | .aastore => am_pr st fun x r => am_pi r fun i r => am_pr r fun a r => ((((w.1 a).1 = 104 ∧ (w.1 x).1 = 1) ∨ ((w.1 a).1 = 105 ∧ (w.1 x).1 = 8)) ∧ vp_in i (w.1 a).2) ∧ K (pc + 1) ls r (am_sR w (am_u w.2.2.2.1 a i.toNatClampNeg x))
  | .arraylength => am_pr st fun a r => (100 ≤ (w.1 a).1 ∧ (w.1 a).1 ≤ 202) ∧ K (pc + 1) ls (.int (Int32.ofNat (w.1 a).2) :: r) w
  | .new q => bif Nat.blt w.2.2.2.2.1 204 && (Nat.blt w.2.2.2.2.2.1 bd.1 && Nat.ble (w.2.2.2.2.2.2 + q % 64) bd.2) then K (pc + 1) ls (.ref w.2.2.2.2.1 :: st) (am_new w (q / 64) (q % 64)) else False
  | .newarray t => am_pi st fun n r => bif Nat.blt w.2.2.2.2.1 204 && (Nat.blt w.2.2.2.2.2.1 bd.1 && Nat.ble (w.2.2.2.2.2.2 + n.toNatClampNeg) bd.2) then (0 ≤ n ∧ n ≤ 20000) ∧ K (pc + 1) ls (.ref w.2.2.2.2.1 :: r) (am_new w (match t with | .int => 100 | .long => 101 | .byte => 102 | _ => 103) n.toNatClampNeg) else False
  | .anewarray c => am_pi st fun n r => bif Nat.blt w.2.2.2.2.1 204 && (Nat.blt w.2.2.2.2.2.1 bd.1 && Nat.ble (w.2.2.2.2.2.2 + n.toNatClampNeg) bd.2) then (0 ≤ n ∧ n ≤ 20000) ∧ K (pc + 1) ls (.ref w.2.2.2.2.1 :: r) (am_new w c n.toNatClampNeg) else False
  | .multianewarray _ _ => am_pi st fun m r => am_pi r fun n r => bif Nat.blt (w.2.2.2.2.1 + 4) 204 && (Nat.blt (w.2.2.2.2.2.1 + 4) bd.1 && Nat.ble (w.2.2.2.2.2.2 + 36) bd.2) then (n = 4 ∧ m = 8) ∧ K (pc + 1) ls (.ref w.2.2.2.2.1 :: r) (am_sR (am_rows (am_new w 106 4) 8 4) (fun b j => if b = w.2.2.2.2.1 then (if j < 4 then w.2.2.2.2.1 + 1 + j else 0) else (am_rows (am_new w 106 4) 8 4).2.2.2.1 b j)) else False
  | .invokevirtual q => am_tk (q / 128 % 16) st [] fun as r => match as with
    | .ref a :: _ => (w.1 a).1 = q % 128 ∧ (bif Nat.ble (am_cat r) 8 then Cl (q / 2048) as (am_zc w 0 0) (fun v w' => K (pc + 1) ls (v ++ r) (am_zc w' w.2.2.2.2.2.1 w.2.2.2.2.2.2)) else False)
    | _ => False
  | .invokespecial q => am_tk (q / 128 % 16) st [] fun as r => match as with
    | .ref a :: _ => 1 ≤ a ∧ a < 5000 ∧ (bif Nat.ble (am_cat r) 8 && (Nat.ble (w.2.2.2.2.2.1 + q / 2097152 % 1000) bd.1 && Nat.ble (w.2.2.2.2.2.2 + q / 2097152000) bd.2) then Cl (q / 2048 % 1024) as (am_zc w 0 0) (fun v w' => K (pc + 1) ls (v ++ r) (am_zc w' (w.2.2.2.2.2.1 + q / 2097152 % 1000) (w.2.2.2.2.2.2 + q / 2097152000))) else False)
    | _ => False
  | .invokestatic q => am_tk (q / 128 % 16) st [] fun as r => bif Nat.beq (q / 2048) 0 then (bif Nat.ble (am_cat r) 8 && (Nat.blt w.2.2.2.2.2.1 bd.1 && Nat.ble (w.2.2.2.2.2.2 + 8) bd.2) then Cl 0 as (am_zc w 0 0) (fun v w' => K (pc + 1) ls (v ++ r) (am_zc w' (w.2.2.2.2.2.1 + 1) (w.2.2.2.2.2.2 + 8))) else False) else bif Nat.ble (am_cat r) 8 then Cl (q / 2048) as (am_zc w 0 0) (fun v w' => K (pc + 1) ls (v ++ r) (am_zc w' w.2.2.2.2.2.1 w.2.2.2.2.2.2)) else False
  | .pop2 => am_pr st fun a r => 1 ≤ a ∧ a < 5000 ∧ bif Nat.ble (am_cat r) 8 then K (pc + 1) ls r w else False
  | .dmul => am_pi st fun y r => am_pi r fun x r => bif Nat.ble (am_cat r) 8 then K (pc + 1) ls (.int (if y < x then y else x) :: r) w else False
  | .dadd => am_pi st fun y r => am_pi r fun x r => bif Nat.ble (am_cat r) 8 then K (pc + 1) ls (.int (if x < y then y else x) :: r) w else False
  | .drem => am_pi st fun y r => am_pi r fun x r => ¬ y = 0 ∧ (bif Nat.ble (am_cat r) 8 then K (pc + 1) ls (.int (am_fm x y) :: r) w else False)
  | .dneg => am_pi st fun x r => bif Nat.ble (am_cat r) 8 then K (pc + 1) ls (.int (if 0 ≤ x then x else 0 - x) :: r) w else False
  | .fmul => am_pl st fun y r => am_pl r fun x r => bif Nat.ble (am_cat r) 8 then K (pc + 1) ls (.long (if y < x then y else x) :: r) w else False
  | .fadd => am_pl st fun y r => am_pl r fun x r => bif Nat.ble (am_cat r) 8 then K (pc + 1) ls (.long (if y < x then x else y) :: r) w else False
  | .frem => bif Nat.ble 204 w.2.2.2.2.1 then am_pi st fun n r => am_pi r fun dp r => am_pr r fun a r => am_pi r fun sp r => am_pr r fun a0 r => bif Nat.ble (am_cat r) 8 then ((w.1 a0).1 = 100 ∧ (w.1 a).1 = 100) ∧ (¬ sp < 0 ∧ ¬ dp < 0 ∧ ¬ n < 0 ∧ sp.toNatClampNeg + n.toNatClampNeg ≤ (w.1 a0).2 ∧ dp.toNatClampNeg + n.toNatClampNeg ≤ (w.1 a).2) ∧ K (pc + 1) ls r (am_sI w (am_cpI w.2.1 a0 a sp.toNatClampNeg dp.toNatClampNeg n.toNatClampNeg)) else False else False
  | .fdiv => bif Nat.ble 204 w.2.2.2.2.1 then am_pi st fun n r => am_pi r fun dp r => am_pr r fun a r => am_pi r fun sp r => am_pr r fun a0 r => bif Nat.ble (am_cat r) 8 then ((w.1 a0).1 = 200 ∧ (w.1 a).1 = 100) ∧ (¬ sp < 0 ∧ ¬ dp < 0 ∧ ¬ n < 0 ∧ sp.toNatClampNeg + n.toNatClampNeg ≤ (w.1 a0).2 ∧ dp.toNatClampNeg + n.toNatClampNeg ≤ (w.1 a).2) ∧ K (pc + 1) ls r (am_sI w (am_cpI w.2.1 a0 a sp.toNatClampNeg dp.toNatClampNeg n.toNatClampNeg)) else False else False
  | .ireturn => match st with
    | [.int x] => Q [.int x] w
    | _ => False
  | .ret t => match st with
    | [.int x] => (match t with | 0 => x = 0 ∨ x = 1 | 1 => (x.toUInt32 % 65536).toInt32 = x | _ => x.toInt8.toInt32 = x) ∧ Q [.int x] w
    | _ => False
  | .lreturn => match st with
    | [.long x] => Q [.long x] w
    | _ => False
  | .areturn => match st with
    | [.ref x] => x < 5000 ∧ Q [.ref x] w
    | _ => False
  | .return_ => match st with
    | [] => Q [] w
    | _ => False
  | _ => False
/-- up to n instructions, to a place of 'stop' or the end -/
def am_wp (code : List Instr) (Cl : am_C) (bd : Nat × Nat) (Q : am_Q) (stop : List Nat) (K : am_K) : Nat → Nat → List Value → List Value → am_W → Prop
  | 0, pc, ls, st, w => K pc ls st w
  | n + 1, pc, ls, st, w => am_stp Cl bd Q (fun pc' ls' st' w' => bif am_in stop pc' then K pc' ls' st' w' else am_wp code Cl bd Q stop K n pc' ls' st' w') (am_fe code pc) pc ls st w
