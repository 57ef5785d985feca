noncomputable def am_m0 : am_M := (objectInit, ⟨#[]⟩, 0, none, 0, 0, 0)
noncomputable def am_mi0 (i : Nat) : am_M := (am_yL.getD i objectInit, am_bL.getD i ⟨#[]⟩, (am_nL.getD i (0, 0, 0, 0)).1, am_rL.getD i none, (am_nL.getD i (0, 0, 0, 0)).2.1, (am_nL.getD i (0, 0, 0, 0)).2.2.1, (am_nL.getD i (0, 0, 0, 0)).2.2.2)
noncomputable def am_mt (mid : Nat) : am_M := am_mi0 (mid - 20)
def am_bdL : List (Nat × Nat × Nat) := [(94, 1, 240), (47, 3, 116), (56, 4, 120), (20, 2, 280), (29, 3, 284), (90, 2, 16), (62, 126, 1624), (111, 1, 6), (103, 4, 32), (80, 4, 32), (117, 177, 3712), (185, 23, 26737), (286, 601024, 7293034), (300, 1, 8), (301, 1, 8)]
def am_lk2 : List (Nat × Nat × Nat) → Nat → Nat × Nat
  | [], _ => (0, 0)
  | x :: l, m => bif Nat.beq x.1 m then x.2 else am_lk2 l m
/-- what a method may make: cells, slots -/
def am_bd (mid : Nat) : Nat × Nat := am_lk2 am_bdL mid
noncomputable def am_ct (mid : Nat) : List Nat × List Nat × List Instr := am_CL.getD (mid - 20) ([], [], [])
noncomputable def am_cod (mid : Nat) : List Instr := (am_ct mid).2.2
def am_tg (pcs : List Nat) (pc : Nat) (t : Int) : Int := (pcs.getD t.toNat 0 : Int) - (pc : Int)
noncomputable def am_ck1 (o fl : Nat) (cc : ByteArray) (rt : Option FieldType) (pcs : List Nat) (pc np h : Nat) (i : Instr) : Bool := match i with
  | .sipush v => bif Nat.beq h 0 then am_dq cc pc (.iconst v, 1) && Nat.beq np (pc + 1)
    else bif Nat.beq h 1 then am_dq cc pc (.bipush v, 2) && Nat.beq np (pc + 2) && decide ((Int8.ofInt v).toInt32 = Int32.ofInt v)
    else bif Nat.beq h 2 then am_dq cc pc (.sipush v, 3) && Nat.beq np (pc + 3) && decide ((Int16.ofInt v).toInt32 = Int32.ofInt v)
    else bif Nat.beq (h % 8) 3 then am_dq cc pc (.ldc (h / 8), 2) && Nat.beq np (pc + 2) && am_mi am_LC o (h / 8) v
    else bif Nat.beq (h % 8) 4 then am_dq cc pc (.ldc_w (h / 8), 3) && Nat.beq np (pc + 3) && am_mi am_LC o (h / 8) v
    else am_dq cc pc (.getstatic (h / 8), 3) && Nat.beq np (pc + 3) && am_m3 am_LG o (h / 8) 1 && decide (v = 1)
  | .bipush v => bif Nat.beq h 0 then ((am_dq cc pc (.lconst 0, 1) && decide (v = 0)) || (am_dq cc pc (.lconst 1, 1) && decide (v = 1))) && Nat.beq np (pc + 1)
    else am_dq cc pc (.ldc2_w (h - 1), 3) && Nat.beq np (pc + 3) && am_mi am_LL o (h - 1) v
  | .aconst_null => am_dq cc pc (.aconst_null, 1) && Nat.beq np (pc + 1)
  | .ldc a => bif Nat.beq (h % 2) 0 then am_dq cc pc (.ldc (h / 2), 2) && Nat.beq np (pc + 2) && am_m4 am_LS o (h / 2) a 0 else am_dq cc pc (.ldc_w (h / 2), 3) && Nat.beq np (pc + 3) && am_m4 am_LS o (h / 2) a 1
  | .getstatic a => am_dq cc pc (.getstatic h, 3) && Nat.beq np (pc + 3) && am_m3 am_LG o h a && Nat.ble 5000 a
  | .iload n => bif Nat.beq h 0 then Nat.blt n 4 && am_dq cc pc (.iload_n (Fin.ofNat 4 n), 1) && Nat.beq np (pc + 1) else am_dq cc pc (.iload n, 2) && Nat.beq np (pc + 2)
  | .lload n => bif Nat.beq h 0 then Nat.blt n 4 && am_dq cc pc (.lload_n (Fin.ofNat 4 n), 1) && Nat.beq np (pc + 1) else am_dq cc pc (.lload n, 2) && Nat.beq np (pc + 2)
  | .aload n => bif Nat.beq h 0 then Nat.blt n 4 && am_dq cc pc (.aload_n (Fin.ofNat 4 n), 1) && Nat.beq np (pc + 1) else am_dq cc pc (.aload n, 2) && Nat.beq np (pc + 2)
  | .istore n => bif Nat.beq h 0 then Nat.blt n 4 && am_dq cc pc (.istore_n (Fin.ofNat 4 n), 1) && Nat.beq np (pc + 1) else am_dq cc pc (.istore n, 2) && Nat.beq np (pc + 2)
  | .lstore n => bif Nat.beq h 0 then Nat.blt n 4 && am_dq cc pc (.lstore_n (Fin.ofNat 4 n), 1) && Nat.beq np (pc + 1) else am_dq cc pc (.lstore n, 2) && Nat.beq np (pc + 2)
  | .astore n => bif Nat.beq h 0 then Nat.blt n 4 && am_dq cc pc (.astore_n (Fin.ofNat 4 n), 1) && Nat.beq np (pc + 1) else am_dq cc pc (.astore n, 2) && Nat.beq np (pc + 2)
  | .iinc n c => am_dq cc pc (.iinc n c, 3) && Nat.beq np (pc + 3)
  | .goto t => am_dq cc pc (.goto (am_tg pcs pc t), 3)
  | .ifCond c t => am_dq cc pc (.ifCond c (am_tg pcs pc t), 3) && Nat.beq np (pc + 3)
  | .if_icmp c t => am_dq cc pc (.if_icmp c (am_tg pcs pc t), 3) && Nat.beq np (pc + 3)
  | .ifnull t => am_dq cc pc (.ifnull (am_tg pcs pc t), 3) && Nat.beq np (pc + 3)
  | .ifnonnull t => am_dq cc pc (.ifnonnull (am_tg pcs pc t), 3) && Nat.beq np (pc + 3)
  | .tableswitch d lo hi ts => am_dq cc pc (.tableswitch (am_tg pcs pc d) lo hi (ts.map (am_tg pcs pc)), np - pc) && decide (hi = lo + (ts.size : Int) - 1)
  | .lookupswitch d ps => am_dq cc pc (.lookupswitch (am_tg pcs pc d) (ps.map (fun q => (q.1, am_tg pcs pc q.2))), np - pc) && (ps.toList.zip (ps.toList.drop 1)).all (fun q => decide (q.1.1 < q.2.1))
  | .getfield q => am_dq cc pc (.getfield h, 3) && Nat.beq np (pc + 3) && (bif Nat.beq (q / 256) 90 then am_m3 am_LFs o h q && (Nat.beq q 23042 || Nat.beq q 23044) else am_m3 am_LF o h q)
  | .putfield q => am_dq cc pc (.putfield h, 3) && Nat.beq np (pc + 3) && am_m3 am_LF o h q && (!(am_F (q / 256 - 1) (q / 4 % 64)).2.2.2 || (Nat.beq fl 2 && Nat.beq (o + 1) (q / 256)))
  | .iaload => am_dq cc pc (.iaload, 1) && Nat.beq np (pc + 1)
  | .saload => am_dq cc pc (.iaload, 1) && Nat.beq np (pc + 1)
  | .new q => am_dq cc pc (.new h, 3) && Nat.beq np (pc + 3) && am_m3 am_LN o h (q / 64) && Nat.beq (q % 64) (am_nf (q / 64 - 1)) && Nat.blt 0 (q / 64) && Nat.ble (q / 64) 13
  | .newarray t => am_dq cc pc (.newarray t, 2) && Nat.beq np (pc + 2) && (decide (t = .int) || decide (t = .long) || decide (t = .byte) || decide (t = .boolean))
  | .anewarray c => am_dq cc pc (.anewarray h, 3) && Nat.beq np (pc + 3) && am_m3 am_LA o h c && (Nat.beq c 104 || Nat.beq c 105)
  | .multianewarray c e => am_dq cc pc (.multianewarray h 2, 4) && Nat.beq np (pc + 4) && am_m3 am_LA o h 106 && Nat.beq c 106 && Nat.beq e 2
  | .invokevirtual q => am_dq cc pc (.invokevirtual h, 3) && Nat.beq np (pc + 3) && am_m4 am_LM o h (q / 2048) 0 && Nat.beq (q / 128 % 16) (am_mt (q / 2048)).2.2.2.2.2.2 && Nat.beq (am_mt (q / 2048)).2.2.2.2.2.1 0 && Nat.beq (am_bd (q / 2048)).1 0 && Nat.beq (am_bd (q / 2048)).2 0 && (Nat.beq (q % 128) ((am_mt (q / 2048)).2.2.2.2.1 + 1) || (Nat.beq (q % 128) 90 && Nat.beq (am_mt (q / 2048)).2.2.2.2.1 16)) && Nat.ble 20 (q / 2048) && Nat.blt (q / 2048 - 20) am_nL.length
  | .invokespecial q => am_dq cc pc (.invokespecial h, 3) && Nat.beq np (pc + 3) && am_m4 am_LM o h (q / 2048 % 1024) 2 && Nat.beq (q / 128 % 16) (am_mt (q / 2048 % 1024)).2.2.2.2.2.2 && Nat.beq (am_mt (q / 2048 % 1024)).2.2.2.2.2.1 2 && Nat.beq (q / 2097152 % 1000) (am_bd (q / 2048 % 1024)).1 && Nat.beq (q / 2097152000) (am_bd (q / 2048 % 1024)).2 && Nat.ble 20 (q / 2048 % 1024) && Nat.blt (q / 2048 % 1024 - 20) am_nL.length
  | .invokestatic q => bif Nat.beq (q / 2048) 0 then true else am_dq cc pc (.invokestatic h, 3) && Nat.beq np (pc + 3) && (am_m4 am_LM o h (q / 2048) 1 || am_m4 am_LM o h (q / 2048) 3) && Nat.beq (q / 128 % 16) (am_mt (q / 2048)).2.2.2.2.2.2 && Nat.beq (am_mt (q / 2048)).2.2.2.2.2.1 1 && Nat.beq (am_bd (q / 2048)).1 0 && Nat.beq (am_bd (q / 2048)).2 0 && Nat.ble 20 (q / 2048) && Nat.blt (q / 2048 - 20) am_nL.length
  | .pop2 => am_dq cc pc (.invokespecial h, 3) && Nat.beq np (pc + 3) && am_m3 am_LP o h 0
  | .dmul => am_dq cc pc (.invokestatic h, 3) && Nat.beq np (pc + 3) && am_m3 am_LP o h 1
  | .dadd => am_dq cc pc (.invokestatic h, 3) && Nat.beq np (pc + 3) && am_m3 am_LP o h 2
  | .dneg => am_dq cc pc (.invokestatic h, 3) && Nat.beq np (pc + 3) && am_m3 am_LP o h 3
  | .fmul => am_dq cc pc (.invokestatic h, 3) && Nat.beq np (pc + 3) && am_m3 am_LP o h 4
  | .fadd => am_dq cc pc (.invokestatic h, 3) && Nat.beq np (pc + 3) && am_m3 am_LP o h 5
  | .frem => am_dq cc pc (.invokestatic h, 3) && Nat.beq np (pc + 3) && am_m3 am_LP o h 6
  | .fdiv => am_dq cc pc (.invokestatic h, 3) && Nat.beq np (pc + 3) && am_m3 am_LP o h 6
  | .drem => am_dq cc pc (.invokestatic h, 3) && Nat.beq np (pc + 3) && am_m3 am_LP o h 7
  | .ireturn => am_dq cc pc (.ireturn, 1) && decide (rt = some .int)
  | .ret t => am_dq cc pc (.ireturn, 1) && ((Nat.beq t 0 && decide (rt = some .boolean)) || (Nat.beq t 1 && decide (rt = some .char)) || (Nat.beq t 2 && decide (rt = some .byte)))
  | .lreturn => am_dq cc pc (.lreturn, 1) && decide (rt = some .long)
  | .areturn => am_dq cc pc (.areturn, 1) && decide (rt = some (.array .int))
  | .return_ => am_dq cc pc (.return_, 1) && decide (rt = none)
  | .nop => true
  | j => am_dq cc pc (j, 1) && Nat.beq np (pc + 1)
noncomputable def am_ckL (o fl : Nat) (cc : ByteArray) (rt : Option FieldType) (pcs : List Nat) : List Nat → List Nat → List Instr → Bool
  | pc :: ps, h :: hs, i :: is => am_ck1 o fl cc rt pcs pc (ps.getD 0 0) h i && am_ckL o fl cc rt pcs ps hs is
  | [], [], [] => true
  | _, _, _ => false
noncomputable def am_ckM (m : am_M) (c : List Nat × List Nat × List Instr) : Bool := am_ckL m.2.2.2.2.1 m.2.2.2.2.2.1 m.2.1 m.2.2.2.1 c.1 c.1 c.2.1 c.2.2 && Nat.ble m.2.2.1 60 && Nat.beq (c.1.getD 0 1) 0
