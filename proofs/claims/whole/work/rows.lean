section
-- ===== PART A: goes FIRST, ahead of the names: the tables' words, and 'selects' of the private methods out of them =====
/-- a private method of a class that the tables say can be made, by its rows of tables_1 -/
def lw_okq (q : MethodName × Nat) : Prop := (q.1.cls ≠ "java/lang/invoke/MethodHandle" ∧ q.1.cls ≠ "java/lang/invoke/VarHandle") ∧ Cond.instantiable q.1.cls q.2 ∈ tables_1 ∧ Cond.privateMethod q.1 ∈ tables_1 ∧ Cond.instanceMethod q.1 ∈ tables_1
theorem lw_p0 : lw_okq (⟨"TeaTrolley$Tape", "put", "(I)V"⟩, 2) := ⟨⟨by decide +kernel, by decide +kernel⟩, List.mem_of_getElem? (i := 35) (by decide +kernel), List.mem_of_getElem? (i := 440) (by decide +kernel), List.mem_of_getElem? (i := 441) (by decide +kernel)⟩
theorem lw_p1 : lw_okq (⟨"TeaTrolley$OfficeText", "readRules", "()Z"⟩, 3) := ⟨⟨by decide +kernel, by decide +kernel⟩, List.mem_of_getElem? (i := 52) (by decide +kernel), List.mem_of_getElem? (i := 477) (by decide +kernel), List.mem_of_getElem? (i := 478) (by decide +kernel)⟩
theorem lw_p2 : lw_okq (⟨"TeaTrolley$OfficeText", "readItems", "(Ljava/lang/String;[I[I[II)Z"⟩, 3) := ⟨⟨by decide +kernel, by decide +kernel⟩, List.mem_of_getElem? (i := 52) (by decide +kernel), List.mem_of_getElem? (i := 486) (by decide +kernel), List.mem_of_getElem? (i := 487) (by decide +kernel)⟩
theorem lw_p3 : lw_okq (⟨"TeaTrolley$OfficeText", "readNumber", "(II)I"⟩, 3) := ⟨⟨by decide +kernel, by decide +kernel⟩, List.mem_of_getElem? (i := 52) (by decide +kernel), List.mem_of_getElem? (i := 571) (by decide +kernel), List.mem_of_getElem? (i := 572) (by decide +kernel)⟩
theorem lw_p4 : lw_okq (⟨"TeaTrolley$OfficeText", "readRoom", "()Z"⟩, 3) := ⟨⟨by decide +kernel, by decide +kernel⟩, List.mem_of_getElem? (i := 52) (by decide +kernel), List.mem_of_getElem? (i := 584) (by decide +kernel), List.mem_of_getElem? (i := 585) (by decide +kernel)⟩
theorem lw_p5 : lw_okq (⟨"TeaTrolley$LawText", "readClause", "()Z"⟩, 3) := ⟨⟨by decide +kernel, by decide +kernel⟩, List.mem_of_getElem? (i := 99) (by decide +kernel), List.mem_of_getElem? (i := 616) (by decide +kernel), List.mem_of_getElem? (i := 617) (by decide +kernel)⟩
theorem lw_p6 : lw_okq (⟨"TeaTrolley$LawText", "readSign", "(I)Z"⟩, 3) := ⟨⟨by decide +kernel, by decide +kernel⟩, List.mem_of_getElem? (i := 99) (by decide +kernel), List.mem_of_getElem? (i := 620) (by decide +kernel), List.mem_of_getElem? (i := 621) (by decide +kernel)⟩
theorem lw_p7 : lw_okq (⟨"TeaTrolley$LawText", "here", "()I"⟩, 3) := ⟨⟨by decide +kernel, by decide +kernel⟩, List.mem_of_getElem? (i := 99) (by decide +kernel), List.mem_of_getElem? (i := 624) (by decide +kernel), List.mem_of_getElem? (i := 625) (by decide +kernel)⟩
theorem lw_p8 : lw_okq (⟨"TeaTrolley$LawText", "goOn", "()V"⟩, 3) := ⟨⟨by decide +kernel, by decide +kernel⟩, List.mem_of_getElem? (i := 99) (by decide +kernel), List.mem_of_getElem? (i := 629) (by decide +kernel), List.mem_of_getElem? (i := 630) (by decide +kernel)⟩
theorem lw_p9 : lw_okq (⟨"TeaTrolley$LawText", "readSum", "(I)Z"⟩, 3) := ⟨⟨by decide +kernel, by decide +kernel⟩, List.mem_of_getElem? (i := 99) (by decide +kernel), List.mem_of_getElem? (i := 633) (by decide +kernel), List.mem_of_getElem? (i := 634) (by decide +kernel)⟩
theorem lw_p10 : lw_okq (⟨"TeaTrolley$LawText", "readTerm", "(I)Z"⟩, 3) := ⟨⟨by decide +kernel, by decide +kernel⟩, List.mem_of_getElem? (i := 99) (by decide +kernel), List.mem_of_getElem? (i := 637) (by decide +kernel), List.mem_of_getElem? (i := 638) (by decide +kernel)⟩
theorem lw_p11 : lw_okq (⟨"TeaTrolley$LawText", "readAtom", "(I)Z"⟩, 3) := ⟨⟨by decide +kernel, by decide +kernel⟩, List.mem_of_getElem? (i := 99) (by decide +kernel), List.mem_of_getElem? (i := 641) (by decide +kernel), List.mem_of_getElem? (i := 642) (by decide +kernel)⟩
theorem lw_p12 : lw_okq (⟨"TeaTrolley$LawText", "goDeeper", "(I)Z"⟩, 3) := ⟨⟨by decide +kernel, by decide +kernel⟩, List.mem_of_getElem? (i := 99) (by decide +kernel), List.mem_of_getElem? (i := 645) (by decide +kernel), List.mem_of_getElem? (i := 646) (by decide +kernel)⟩
theorem lw_p13 : lw_okq (⟨"TeaTrolley$LawText", "readNumber", "()Z"⟩, 3) := ⟨⟨by decide +kernel, by decide +kernel⟩, List.mem_of_getElem? (i := 99) (by decide +kernel), List.mem_of_getElem? (i := 655) (by decide +kernel), List.mem_of_getElem? (i := 656) (by decide +kernel)⟩
theorem lw_p14 : lw_okq (⟨"TeaTrolley$LawText", "comparison", "()I"⟩, 3) := ⟨⟨by decide +kernel, by decide +kernel⟩, List.mem_of_getElem? (i := 99) (by decide +kernel), List.mem_of_getElem? (i := 661) (by decide +kernel), List.mem_of_getElem? (i := 662) (by decide +kernel)⟩
theorem lw_p15 : lw_okq (⟨"TeaTrolley$LawText", "readCase", "(Z)Z"⟩, 3) := ⟨⟨by decide +kernel, by decide +kernel⟩, List.mem_of_getElem? (i := 99) (by decide +kernel), List.mem_of_getElem? (i := 665) (by decide +kernel), List.mem_of_getElem? (i := 666) (by decide +kernel)⟩
def lw_privs_1 : List (MethodName × Nat) := [(⟨"TeaTrolley$Tape", "put", "(I)V"⟩, 2), (⟨"TeaTrolley$OfficeText", "readRules", "()Z"⟩, 3), (⟨"TeaTrolley$OfficeText", "readItems", "(Ljava/lang/String;[I[I[II)Z"⟩, 3), (⟨"TeaTrolley$OfficeText", "readNumber", "(II)I"⟩, 3), (⟨"TeaTrolley$OfficeText", "readRoom", "()Z"⟩, 3), (⟨"TeaTrolley$LawText", "readClause", "()Z"⟩, 3), (⟨"TeaTrolley$LawText", "readSign", "(I)Z"⟩, 3), (⟨"TeaTrolley$LawText", "here", "()I"⟩, 3), (⟨"TeaTrolley$LawText", "goOn", "()V"⟩, 3), (⟨"TeaTrolley$LawText", "readSum", "(I)Z"⟩, 3), (⟨"TeaTrolley$LawText", "readTerm", "(I)Z"⟩, 3), (⟨"TeaTrolley$LawText", "readAtom", "(I)Z"⟩, 3), (⟨"TeaTrolley$LawText", "goDeeper", "(I)Z"⟩, 3), (⟨"TeaTrolley$LawText", "readNumber", "()Z"⟩, 3), (⟨"TeaTrolley$LawText", "comparison", "()I"⟩, 3), (⟨"TeaTrolley$LawText", "readCase", "(Z)Z"⟩, 3)]
theorem lw_r1 : ∀ q ∈ lw_privs_1, lw_okq q := List.forall_mem_cons.mpr ⟨lw_p0, List.forall_mem_cons.mpr ⟨lw_p1, List.forall_mem_cons.mpr ⟨lw_p2, List.forall_mem_cons.mpr ⟨lw_p3, List.forall_mem_cons.mpr ⟨lw_p4, List.forall_mem_cons.mpr ⟨lw_p5, List.forall_mem_cons.mpr ⟨lw_p6, List.forall_mem_cons.mpr ⟨lw_p7, List.forall_mem_cons.mpr ⟨lw_p8, List.forall_mem_cons.mpr ⟨lw_p9, List.forall_mem_cons.mpr ⟨lw_p10, List.forall_mem_cons.mpr ⟨lw_p11, List.forall_mem_cons.mpr ⟨lw_p12, List.forall_mem_cons.mpr ⟨lw_p13, List.forall_mem_cons.mpr ⟨lw_p14, List.forall_mem_cons.mpr ⟨lw_p15, fun _ h => absurd h List.not_mem_nil⟩⟩⟩⟩⟩⟩⟩⟩⟩⟩⟩⟩⟩⟩⟩⟩
theorem lw_p16 : lw_okq (⟨"TeaTrolley$LawText", "readCondition", "(IZ)Z"⟩, 3) := ⟨⟨by decide +kernel, by decide +kernel⟩, List.mem_of_getElem? (i := 99) (by decide +kernel), List.mem_of_getElem? (i := 669) (by decide +kernel), List.mem_of_getElem? (i := 670) (by decide +kernel)⟩
theorem lw_p17 : lw_okq (⟨"TeaTrolley$LawText", "readTruth", "(IZ)Z"⟩, 3) := ⟨⟨by decide +kernel, by decide +kernel⟩, List.mem_of_getElem? (i := 99) (by decide +kernel), List.mem_of_getElem? (i := 673) (by decide +kernel), List.mem_of_getElem? (i := 674) (by decide +kernel)⟩
theorem lw_p18 : lw_okq (⟨"TeaTrolley$LawText", "readUnit", "(IZ)Z"⟩, 3) := ⟨⟨by decide +kernel, by decide +kernel⟩, List.mem_of_getElem? (i := 99) (by decide +kernel), List.mem_of_getElem? (i := 677) (by decide +kernel), List.mem_of_getElem? (i := 678) (by decide +kernel)⟩
theorem lw_p19 : lw_okq (⟨"TeaTrolley$LawText", "readNot", "(I)Z"⟩, 3) := ⟨⟨by decide +kernel, by decide +kernel⟩, List.mem_of_getElem? (i := 99) (by decide +kernel), List.mem_of_getElem? (i := 681) (by decide +kernel), List.mem_of_getElem? (i := 682) (by decide +kernel)⟩
theorem lw_p20 : lw_okq (⟨"TeaTrolley$LawText", "atClauseEnd", "()Z"⟩, 3) := ⟨⟨by decide +kernel, by decide +kernel⟩, List.mem_of_getElem? (i := 99) (by decide +kernel), List.mem_of_getElem? (i := 691) (by decide +kernel), List.mem_of_getElem? (i := 692) (by decide +kernel)⟩
theorem lw_p21 : lw_okq (⟨"TeaTrolley", "readRound", "()I"⟩, 18) := ⟨⟨by decide +kernel, by decide +kernel⟩, List.mem_of_getElem? (i := 27) (by decide +kernel), List.mem_of_getElem? (i := 695) (by decide +kernel), List.mem_of_getElem? (i := 696) (by decide +kernel)⟩
theorem lw_p22 : lw_okq (⟨"TeaTrolley", "openOffice", "()I"⟩, 18) := ⟨⟨by decide +kernel, by decide +kernel⟩, List.mem_of_getElem? (i := 27) (by decide +kernel), List.mem_of_getElem? (i := 707) (by decide +kernel), List.mem_of_getElem? (i := 708) (by decide +kernel)⟩
theorem lw_p23 : lw_okq (⟨"TeaTrolley$Office", "distance", "(III)I"⟩, 4) := ⟨⟨by decide +kernel, by decide +kernel⟩, List.mem_of_getElem? (i := 58) (by decide +kernel), List.mem_of_getElem? (i := 715) (by decide +kernel), List.mem_of_getElem? (i := 716) (by decide +kernel)⟩
theorem lw_p24 : lw_okq (⟨"TeaTrolley", "addLaw", "()I"⟩, 18) := ⟨⟨by decide +kernel, by decide +kernel⟩, List.mem_of_getElem? (i := 27) (by decide +kernel), List.mem_of_getElem? (i := 740) (by decide +kernel), List.mem_of_getElem? (i := 741) (by decide +kernel)⟩
theorem lw_p25 : lw_okq (⟨"TeaTrolley", "addRound", "()I"⟩, 18) := ⟨⟨by decide +kernel, by decide +kernel⟩, List.mem_of_getElem? (i := 27) (by decide +kernel), List.mem_of_getElem? (i := 749) (by decide +kernel), List.mem_of_getElem? (i := 750) (by decide +kernel)⟩
theorem lw_p26 : lw_okq (⟨"TeaTrolley", "noOffice", "()Z"⟩, 18) := ⟨⟨by decide +kernel, by decide +kernel⟩, List.mem_of_getElem? (i := 27) (by decide +kernel), List.mem_of_getElem? (i := 758) (by decide +kernel), List.mem_of_getElem? (i := 759) (by decide +kernel)⟩
theorem lw_p27 : lw_okq (⟨"TeaTrolley", "isRound", "(I)Z"⟩, 18) := ⟨⟨by decide +kernel, by decide +kernel⟩, List.mem_of_getElem? (i := 27) (by decide +kernel), List.mem_of_getElem? (i := 774) (by decide +kernel), List.mem_of_getElem? (i := 775) (by decide +kernel)⟩
theorem lw_p28 : lw_okq (⟨"TeaTrolley", "isRoom", "(I)Z"⟩, 18) := ⟨⟨by decide +kernel, by decide +kernel⟩, List.mem_of_getElem? (i := 27) (by decide +kernel), List.mem_of_getElem? (i := 787) (by decide +kernel), List.mem_of_getElem? (i := 788) (by decide +kernel)⟩
theorem lw_p29 : lw_okq (⟨"TeaTrolley", "beginAct", "()V"⟩, 18) := ⟨⟨by decide +kernel, by decide +kernel⟩, List.mem_of_getElem? (i := 27) (by decide +kernel), List.mem_of_getElem? (i := 799) (by decide +kernel), List.mem_of_getElem? (i := 800) (by decide +kernel)⟩
theorem lw_p30 : lw_okq (⟨"TeaTrolley", "passDay", "()V"⟩, 18) := ⟨⟨by decide +kernel, by decide +kernel⟩, List.mem_of_getElem? (i := 27) (by decide +kernel), List.mem_of_getElem? (i := 813) (by decide +kernel), List.mem_of_getElem? (i := 814) (by decide +kernel)⟩
theorem lw_p31 : lw_okq (⟨"TeaTrolley", "goRound", "()V"⟩, 18) := ⟨⟨by decide +kernel, by decide +kernel⟩, List.mem_of_getElem? (i := 27) (by decide +kernel), List.mem_of_getElem? (i := 817) (by decide +kernel), List.mem_of_getElem? (i := 818) (by decide +kernel)⟩
def lw_privs_2 : List (MethodName × Nat) := [(⟨"TeaTrolley$LawText", "readCondition", "(IZ)Z"⟩, 3), (⟨"TeaTrolley$LawText", "readTruth", "(IZ)Z"⟩, 3), (⟨"TeaTrolley$LawText", "readUnit", "(IZ)Z"⟩, 3), (⟨"TeaTrolley$LawText", "readNot", "(I)Z"⟩, 3), (⟨"TeaTrolley$LawText", "atClauseEnd", "()Z"⟩, 3), (⟨"TeaTrolley", "readRound", "()I"⟩, 18), (⟨"TeaTrolley", "openOffice", "()I"⟩, 18), (⟨"TeaTrolley$Office", "distance", "(III)I"⟩, 4), (⟨"TeaTrolley", "addLaw", "()I"⟩, 18), (⟨"TeaTrolley", "addRound", "()I"⟩, 18), (⟨"TeaTrolley", "noOffice", "()Z"⟩, 18), (⟨"TeaTrolley", "isRound", "(I)Z"⟩, 18), (⟨"TeaTrolley", "isRoom", "(I)Z"⟩, 18), (⟨"TeaTrolley", "beginAct", "()V"⟩, 18), (⟨"TeaTrolley", "passDay", "()V"⟩, 18), (⟨"TeaTrolley", "goRound", "()V"⟩, 18)]
theorem lw_r2 : ∀ q ∈ lw_privs_2, lw_okq q := List.forall_mem_cons.mpr ⟨lw_p16, List.forall_mem_cons.mpr ⟨lw_p17, List.forall_mem_cons.mpr ⟨lw_p18, List.forall_mem_cons.mpr ⟨lw_p19, List.forall_mem_cons.mpr ⟨lw_p20, List.forall_mem_cons.mpr ⟨lw_p21, List.forall_mem_cons.mpr ⟨lw_p22, List.forall_mem_cons.mpr ⟨lw_p23, List.forall_mem_cons.mpr ⟨lw_p24, List.forall_mem_cons.mpr ⟨lw_p25, List.forall_mem_cons.mpr ⟨lw_p26, List.forall_mem_cons.mpr ⟨lw_p27, List.forall_mem_cons.mpr ⟨lw_p28, List.forall_mem_cons.mpr ⟨lw_p29, List.forall_mem_cons.mpr ⟨lw_p30, List.forall_mem_cons.mpr ⟨lw_p31, fun _ h => absurd h List.not_mem_nil⟩⟩⟩⟩⟩⟩⟩⟩⟩⟩⟩⟩⟩⟩⟩⟩
theorem lw_p32 : lw_okq (⟨"TeaTrolley", "heldRound", "()[I"⟩, 18) := ⟨⟨by decide +kernel, by decide +kernel⟩, List.mem_of_getElem? (i := 27) (by decide +kernel), List.mem_of_getElem? (i := 821) (by decide +kernel), List.mem_of_getElem? (i := 822) (by decide +kernel)⟩
theorem lw_p33 : lw_okq (⟨"TeaTrolley$Law", "pop", "()I"⟩, 4) := ⟨⟨by decide +kernel, by decide +kernel⟩, List.mem_of_getElem? (i := 105) (by decide +kernel), List.mem_of_getElem? (i := 845) (by decide +kernel), List.mem_of_getElem? (i := 846) (by decide +kernel)⟩
theorem lw_p34 : lw_okq (⟨"TeaTrolley$Law", "push", "(I)V"⟩, 4) := ⟨⟨by decide +kernel, by decide +kernel⟩, List.mem_of_getElem? (i := 105) (by decide +kernel), List.mem_of_getElem? (i := 850) (by decide +kernel), List.mem_of_getElem? (i := 851) (by decide +kernel)⟩
theorem lw_p35 : lw_okq (⟨"TeaTrolley$Walk", "arrive", "(II)V"⟩, 13) := ⟨⟨by decide +kernel, by decide +kernel⟩, List.mem_of_getElem? (i := 258) (by decide +kernel), List.mem_of_getElem? (i := 872) (by decide +kernel), List.mem_of_getElem? (i := 873) (by decide +kernel)⟩
theorem lw_p36 : lw_okq (⟨"TeaTrolley", "logLength", "()I"⟩, 18) := ⟨⟨by decide +kernel, by decide +kernel⟩, List.mem_of_getElem? (i := 27) (by decide +kernel), List.mem_of_getElem? (i := 942) (by decide +kernel), List.mem_of_getElem? (i := 943) (by decide +kernel)⟩
theorem lw_p37 : lw_okq (⟨"TeaTrolley", "comesTo", "(I)Z"⟩, 18) := ⟨⟨by decide +kernel, by decide +kernel⟩, List.mem_of_getElem? (i := 27) (by decide +kernel), List.mem_of_getElem? (i := 971) (by decide +kernel), List.mem_of_getElem? (i := 972) (by decide +kernel)⟩
theorem lw_p38 : lw_okq (⟨"TeaTrolley", "canHaveTwo", "(I)Z"⟩, 18) := ⟨⟨by decide +kernel, by decide +kernel⟩, List.mem_of_getElem? (i := 27) (by decide +kernel), List.mem_of_getElem? (i := 987) (by decide +kernel), List.mem_of_getElem? (i := 988) (by decide +kernel)⟩
theorem lw_p39 : lw_okq (⟨"TeaTrolley", "cupsIn", "(I)I"⟩, 18) := ⟨⟨by decide +kernel, by decide +kernel⟩, List.mem_of_getElem? (i := 27) (by decide +kernel), List.mem_of_getElem? (i := 991) (by decide +kernel), List.mem_of_getElem? (i := 992) (by decide +kernel)⟩
theorem lw_p40 : lw_okq (⟨"TeaTrolley", "canPlay", "(II)Z"⟩, 18) := ⟨⟨by decide +kernel, by decide +kernel⟩, List.mem_of_getElem? (i := 27) (by decide +kernel), List.mem_of_getElem? (i := 999) (by decide +kernel), List.mem_of_getElem? (i := 1000) (by decide +kernel)⟩
theorem lw_p41 : lw_okq (⟨"TeaTrolley", "gain", "(III)I"⟩, 18) := ⟨⟨by decide +kernel, by decide +kernel⟩, List.mem_of_getElem? (i := 27) (by decide +kernel), List.mem_of_getElem? (i := 1006) (by decide +kernel), List.mem_of_getElem? (i := 1007) (by decide +kernel)⟩
theorem lw_p42 : lw_okq (⟨"TeaTrolley$Walk", "hotParts", "(IIII)I"⟩, 13) := ⟨⟨by decide +kernel, by decide +kernel⟩, List.mem_of_getElem? (i := 258) (by decide +kernel), List.mem_of_getElem? (i := 1036) (by decide +kernel), List.mem_of_getElem? (i := 1037) (by decide +kernel)⟩
theorem lw_p43 : lw_okq (⟨"TeaTrolley$Walk", "hotBehind", "(IIII)I"⟩, 13) := ⟨⟨by decide +kernel, by decide +kernel⟩, List.mem_of_getElem? (i := 258) (by decide +kernel), List.mem_of_getElem? (i := 1040) (by decide +kernel), List.mem_of_getElem? (i := 1041) (by decide +kernel)⟩
theorem lw_p44 : lw_okq (⟨"TeaTrolley", "coldest", "()I"⟩, 18) := ⟨⟨by decide +kernel, by decide +kernel⟩, List.mem_of_getElem? (i := 27) (by decide +kernel), List.mem_of_getElem? (i := 1056) (by decide +kernel), List.mem_of_getElem? (i := 1057) (by decide +kernel)⟩
theorem lw_p45 : lw_okq (⟨"TeaTrolley", "ice", "()I"⟩, 18) := ⟨⟨by decide +kernel, by decide +kernel⟩, List.mem_of_getElem? (i := 27) (by decide +kernel), List.mem_of_getElem? (i := 1060) (by decide +kernel), List.mem_of_getElem? (i := 1061) (by decide +kernel)⟩
theorem lw_p46 : lw_okq (⟨"TeaTrolley$Search", "tryHot", "(IIIIII)V"⟩, 7) := ⟨⟨by decide +kernel, by decide +kernel⟩, List.mem_of_getElem? (i := 312) (by decide +kernel), List.mem_of_getElem? (i := 1073) (by decide +kernel), List.mem_of_getElem? (i := 1074) (by decide +kernel)⟩
theorem lw_p47 : lw_okq (⟨"TeaTrolley$Search", "mostHot", "(IIII)I"⟩, 7) := ⟨⟨by decide +kernel, by decide +kernel⟩, List.mem_of_getElem? (i := 312) (by decide +kernel), List.mem_of_getElem? (i := 1077) (by decide +kernel), List.mem_of_getElem? (i := 1078) (by decide +kernel)⟩
def lw_privs_3 : List (MethodName × Nat) := [(⟨"TeaTrolley", "heldRound", "()[I"⟩, 18), (⟨"TeaTrolley$Law", "pop", "()I"⟩, 4), (⟨"TeaTrolley$Law", "push", "(I)V"⟩, 4), (⟨"TeaTrolley$Walk", "arrive", "(II)V"⟩, 13), (⟨"TeaTrolley", "logLength", "()I"⟩, 18), (⟨"TeaTrolley", "comesTo", "(I)Z"⟩, 18), (⟨"TeaTrolley", "canHaveTwo", "(I)Z"⟩, 18), (⟨"TeaTrolley", "cupsIn", "(I)I"⟩, 18), (⟨"TeaTrolley", "canPlay", "(II)Z"⟩, 18), (⟨"TeaTrolley", "gain", "(III)I"⟩, 18), (⟨"TeaTrolley$Walk", "hotParts", "(IIII)I"⟩, 13), (⟨"TeaTrolley$Walk", "hotBehind", "(IIII)I"⟩, 13), (⟨"TeaTrolley", "coldest", "()I"⟩, 18), (⟨"TeaTrolley", "ice", "()I"⟩, 18), (⟨"TeaTrolley$Search", "tryHot", "(IIIIII)V"⟩, 7), (⟨"TeaTrolley$Search", "mostHot", "(IIII)I"⟩, 7)]
theorem lw_r3 : ∀ q ∈ lw_privs_3, lw_okq q := List.forall_mem_cons.mpr ⟨lw_p32, List.forall_mem_cons.mpr ⟨lw_p33, List.forall_mem_cons.mpr ⟨lw_p34, List.forall_mem_cons.mpr ⟨lw_p35, List.forall_mem_cons.mpr ⟨lw_p36, List.forall_mem_cons.mpr ⟨lw_p37, List.forall_mem_cons.mpr ⟨lw_p38, List.forall_mem_cons.mpr ⟨lw_p39, List.forall_mem_cons.mpr ⟨lw_p40, List.forall_mem_cons.mpr ⟨lw_p41, List.forall_mem_cons.mpr ⟨lw_p42, List.forall_mem_cons.mpr ⟨lw_p43, List.forall_mem_cons.mpr ⟨lw_p44, List.forall_mem_cons.mpr ⟨lw_p45, List.forall_mem_cons.mpr ⟨lw_p46, List.forall_mem_cons.mpr ⟨lw_p47, fun _ h => absurd h List.not_mem_nil⟩⟩⟩⟩⟩⟩⟩⟩⟩⟩⟩⟩⟩⟩⟩⟩
theorem lw_p48 : lw_okq (⟨"TeaTrolley$Search", "tryShort", "(IIIIII)V"⟩, 7) := ⟨⟨by decide +kernel, by decide +kernel⟩, List.mem_of_getElem? (i := 312) (by decide +kernel), List.mem_of_getElem? (i := 1105) (by decide +kernel), List.mem_of_getElem? (i := 1106) (by decide +kernel)⟩
theorem lw_p49 : lw_okq (⟨"TeaTrolley$Search", "isHopeless", "(IIIII)Z"⟩, 7) := ⟨⟨by decide +kernel, by decide +kernel⟩, List.mem_of_getElem? (i := 312) (by decide +kernel), List.mem_of_getElem? (i := 1109) (by decide +kernel), List.mem_of_getElem? (i := 1110) (by decide +kernel)⟩
theorem lw_p50 : lw_okq (⟨"TeaTrolley$Search", "allHot", "(III)Z"⟩, 7) := ⟨⟨by decide +kernel, by decide +kernel⟩, List.mem_of_getElem? (i := 312) (by decide +kernel), List.mem_of_getElem? (i := 1114) (by decide +kernel), List.mem_of_getElem? (i := 1115) (by decide +kernel)⟩
theorem lw_p51 : lw_okq (⟨"TeaTrolley", "hotIfMoved", "(II)I"⟩, 18) := ⟨⟨by decide +kernel, by decide +kernel⟩, List.mem_of_getElem? (i := 27) (by decide +kernel), List.mem_of_getElem? (i := 1123) (by decide +kernel), List.mem_of_getElem? (i := 1124) (by decide +kernel)⟩
theorem lw_p52 : lw_okq (⟨"TeaTrolley$Sightings", "begin", "(I)V"⟩, 7) := ⟨⟨by decide +kernel, by decide +kernel⟩, List.mem_of_getElem? (i := 344) (by decide +kernel), List.mem_of_getElem? (i := 1152) (by decide +kernel), List.mem_of_getElem? (i := 1153) (by decide +kernel)⟩
theorem lw_p53 : lw_okq (⟨"TeaTrolley$Sightings", "countRows", "(III)I"⟩, 7) := ⟨⟨by decide +kernel, by decide +kernel⟩, List.mem_of_getElem? (i := 344) (by decide +kernel), List.mem_of_getElem? (i := 1159) (by decide +kernel), List.mem_of_getElem? (i := 1160) (by decide +kernel)⟩
theorem lw_p54 : lw_okq (⟨"TeaTrolley$Sightings", "countOrders", "(IZ)I"⟩, 7) := ⟨⟨by decide +kernel, by decide +kernel⟩, List.mem_of_getElem? (i := 344) (by decide +kernel), List.mem_of_getElem? (i := 1164) (by decide +kernel), List.mem_of_getElem? (i := 1165) (by decide +kernel)⟩
theorem lw_p55 : lw_okq (⟨"TeaTrolley$Sightings", "countFrom", "(IIII)I"⟩, 7) := ⟨⟨by decide +kernel, by decide +kernel⟩, List.mem_of_getElem? (i := 344) (by decide +kernel), List.mem_of_getElem? (i := 1171) (by decide +kernel), List.mem_of_getElem? (i := 1172) (by decide +kernel)⟩
theorem lw_p56 : lw_okq (⟨"java/lang/Throwable", "fillInStackTrace", "(I)Ljava/lang/Throwable;"⟩, 6) := ⟨⟨by decide +kernel, by decide +kernel⟩, List.mem_of_getElem? (i := 1248) (by decide +kernel), List.mem_of_getElem? (i := 1246) (by decide +kernel), List.mem_of_getElem? (i := 1247) (by decide +kernel)⟩
theorem lw_p57 : lw_okq (⟨"TeaTrolleyModel", "put", "(I)V"⟩, 62) := ⟨⟨by decide +kernel, by decide +kernel⟩, List.mem_of_getElem? (i := 1277) (by decide +kernel), List.mem_of_getElem? (i := 1485) (by decide +kernel), List.mem_of_getElem? (i := 1486) (by decide +kernel)⟩
theorem lw_p58 : lw_okq (⟨"TeaTrolleyModel", "readOffice", "()V"⟩, 62) := ⟨⟨by decide +kernel, by decide +kernel⟩, List.mem_of_getElem? (i := 1277) (by decide +kernel), List.mem_of_getElem? (i := 1501) (by decide +kernel), List.mem_of_getElem? (i := 1502) (by decide +kernel)⟩
theorem lw_p59 : lw_okq (⟨"TeaTrolleyModel", "starts", "([BII)V"⟩, 62) := ⟨⟨by decide +kernel, by decide +kernel⟩, List.mem_of_getElem? (i := 1277) (by decide +kernel), List.mem_of_getElem? (i := 1505) (by decide +kernel), List.mem_of_getElem? (i := 1506) (by decide +kernel)⟩
theorem lw_p60 : lw_okq (⟨"TeaTrolleyModel", "readClause", "()V"⟩, 62) := ⟨⟨by decide +kernel, by decide +kernel⟩, List.mem_of_getElem? (i := 1277) (by decide +kernel), List.mem_of_getElem? (i := 1512) (by decide +kernel), List.mem_of_getElem? (i := 1513) (by decide +kernel)⟩
theorem lw_p61 : lw_okq (⟨"TeaTrolleyModel", "look", "()I"⟩, 62) := ⟨⟨by decide +kernel, by decide +kernel⟩, List.mem_of_getElem? (i := 1277) (by decide +kernel), List.mem_of_getElem? (i := 1516) (by decide +kernel), List.mem_of_getElem? (i := 1517) (by decide +kernel)⟩
theorem lw_p62 : lw_okq (⟨"TeaTrolleyModel", "fails", "()Z"⟩, 62) := ⟨⟨by decide +kernel, by decide +kernel⟩, List.mem_of_getElem? (i := 1277) (by decide +kernel), List.mem_of_getElem? (i := 1520) (by decide +kernel), List.mem_of_getElem? (i := 1521) (by decide +kernel)⟩
theorem lw_p63 : lw_okq (⟨"TeaTrolleyModel", "readItems", "(I[IILjava/lang/String;)V"⟩, 62) := ⟨⟨by decide +kernel, by decide +kernel⟩, List.mem_of_getElem? (i := 1277) (by decide +kernel), List.mem_of_getElem? (i := 1525) (by decide +kernel), List.mem_of_getElem? (i := 1526) (by decide +kernel)⟩
def lw_privs_4 : List (MethodName × Nat) := [(⟨"TeaTrolley$Search", "tryShort", "(IIIIII)V"⟩, 7), (⟨"TeaTrolley$Search", "isHopeless", "(IIIII)Z"⟩, 7), (⟨"TeaTrolley$Search", "allHot", "(III)Z"⟩, 7), (⟨"TeaTrolley", "hotIfMoved", "(II)I"⟩, 18), (⟨"TeaTrolley$Sightings", "begin", "(I)V"⟩, 7), (⟨"TeaTrolley$Sightings", "countRows", "(III)I"⟩, 7), (⟨"TeaTrolley$Sightings", "countOrders", "(IZ)I"⟩, 7), (⟨"TeaTrolley$Sightings", "countFrom", "(IIII)I"⟩, 7), (⟨"java/lang/Throwable", "fillInStackTrace", "(I)Ljava/lang/Throwable;"⟩, 6), (⟨"TeaTrolleyModel", "put", "(I)V"⟩, 62), (⟨"TeaTrolleyModel", "readOffice", "()V"⟩, 62), (⟨"TeaTrolleyModel", "starts", "([BII)V"⟩, 62), (⟨"TeaTrolleyModel", "readClause", "()V"⟩, 62), (⟨"TeaTrolleyModel", "look", "()I"⟩, 62), (⟨"TeaTrolleyModel", "fails", "()Z"⟩, 62), (⟨"TeaTrolleyModel", "readItems", "(I[IILjava/lang/String;)V"⟩, 62)]
theorem lw_r4 : ∀ q ∈ lw_privs_4, lw_okq q := List.forall_mem_cons.mpr ⟨lw_p48, List.forall_mem_cons.mpr ⟨lw_p49, List.forall_mem_cons.mpr ⟨lw_p50, List.forall_mem_cons.mpr ⟨lw_p51, List.forall_mem_cons.mpr ⟨lw_p52, List.forall_mem_cons.mpr ⟨lw_p53, List.forall_mem_cons.mpr ⟨lw_p54, List.forall_mem_cons.mpr ⟨lw_p55, List.forall_mem_cons.mpr ⟨lw_p56, List.forall_mem_cons.mpr ⟨lw_p57, List.forall_mem_cons.mpr ⟨lw_p58, List.forall_mem_cons.mpr ⟨lw_p59, List.forall_mem_cons.mpr ⟨lw_p60, List.forall_mem_cons.mpr ⟨lw_p61, List.forall_mem_cons.mpr ⟨lw_p62, List.forall_mem_cons.mpr ⟨lw_p63, fun _ h => absurd h List.not_mem_nil⟩⟩⟩⟩⟩⟩⟩⟩⟩⟩⟩⟩⟩⟩⟩⟩
theorem lw_p64 : lw_okq (⟨"TeaTrolleyModel", "number", "(II)I"⟩, 62) := ⟨⟨by decide +kernel, by decide +kernel⟩, List.mem_of_getElem? (i := 1277) (by decide +kernel), List.mem_of_getElem? (i := 1562) (by decide +kernel), List.mem_of_getElem? (i := 1563) (by decide +kernel)⟩
theorem lw_p65 : lw_okq (⟨"TeaTrolleyModel", "isDigit", "()Z"⟩, 62) := ⟨⟨by decide +kernel, by decide +kernel⟩, List.mem_of_getElem? (i := 1277) (by decide +kernel), List.mem_of_getElem? (i := 1566) (by decide +kernel), List.mem_of_getElem? (i := 1567) (by decide +kernel)⟩
theorem lw_p66 : lw_okq (⟨"TeaTrolleyModel", "here", "()I"⟩, 62) := ⟨⟨by decide +kernel, by decide +kernel⟩, List.mem_of_getElem? (i := 1277) (by decide +kernel), List.mem_of_getElem? (i := 1570) (by decide +kernel), List.mem_of_getElem? (i := 1571) (by decide +kernel)⟩
theorem lw_p67 : lw_okq (⟨"TeaTrolleyModel", "isWhole", "()Z"⟩, 62) := ⟨⟨by decide +kernel, by decide +kernel⟩, List.mem_of_getElem? (i := 1277) (by decide +kernel), List.mem_of_getElem? (i := 1575) (by decide +kernel), List.mem_of_getElem? (i := 1576) (by decide +kernel)⟩
theorem lw_p68 : lw_okq (⟨"TeaTrolleyModel", "goThrough", "([BII)V"⟩, 62) := ⟨⟨by decide +kernel, by decide +kernel⟩, List.mem_of_getElem? (i := 1277) (by decide +kernel), List.mem_of_getElem? (i := 1579) (by decide +kernel), List.mem_of_getElem? (i := 1580) (by decide +kernel)⟩
theorem lw_p69 : lw_okq (⟨"TeaTrolleyModel", "clause", "()V"⟩, 62) := ⟨⟨by decide +kernel, by decide +kernel⟩, List.mem_of_getElem? (i := 1277) (by decide +kernel), List.mem_of_getElem? (i := 1583) (by decide +kernel), List.mem_of_getElem? (i := 1584) (by decide +kernel)⟩
theorem lw_p70 : lw_okq (⟨"TeaTrolleyModel", "takes", "(I)Z"⟩, 62) := ⟨⟨by decide +kernel, by decide +kernel⟩, List.mem_of_getElem? (i := 1277) (by decide +kernel), List.mem_of_getElem? (i := 1590) (by decide +kernel), List.mem_of_getElem? (i := 1591) (by decide +kernel)⟩
theorem lw_p71 : lw_okq (⟨"TeaTrolleyModel", "condition", "(ZI)Z"⟩, 62) := ⟨⟨by decide +kernel, by decide +kernel⟩, List.mem_of_getElem? (i := 1277) (by decide +kernel), List.mem_of_getElem? (i := 1594) (by decide +kernel), List.mem_of_getElem? (i := 1595) (by decide +kernel)⟩
theorem lw_p72 : lw_okq (⟨"TeaTrolleyModel", "part", "(ZI)Z"⟩, 62) := ⟨⟨by decide +kernel, by decide +kernel⟩, List.mem_of_getElem? (i := 1277) (by decide +kernel), List.mem_of_getElem? (i := 1598) (by decide +kernel), List.mem_of_getElem? (i := 1599) (by decide +kernel)⟩
theorem lw_p73 : lw_okq (⟨"TeaTrolleyModel", "compares", "(ZI)Z"⟩, 62) := ⟨⟨by decide +kernel, by decide +kernel⟩, List.mem_of_getElem? (i := 1277) (by decide +kernel), List.mem_of_getElem? (i := 1602) (by decide +kernel), List.mem_of_getElem? (i := 1603) (by decide +kernel)⟩
theorem lw_p74 : lw_okq (⟨"TeaTrolleyModel", "sum", "()I"⟩, 62) := ⟨⟨by decide +kernel, by decide +kernel⟩, List.mem_of_getElem? (i := 1277) (by decide +kernel), List.mem_of_getElem? (i := 1606) (by decide +kernel), List.mem_of_getElem? (i := 1607) (by decide +kernel)⟩
theorem lw_p75 : lw_okq (⟨"TeaTrolleyModel", "term", "()I"⟩, 62) := ⟨⟨by decide +kernel, by decide +kernel⟩, List.mem_of_getElem? (i := 1277) (by decide +kernel), List.mem_of_getElem? (i := 1610) (by decide +kernel), List.mem_of_getElem? (i := 1611) (by decide +kernel)⟩
theorem lw_p76 : lw_okq (⟨"TeaTrolleyModel", "atom", "()I"⟩, 62) := ⟨⟨by decide +kernel, by decide +kernel⟩, List.mem_of_getElem? (i := 1277) (by decide +kernel), List.mem_of_getElem? (i := 1614) (by decide +kernel), List.mem_of_getElem? (i := 1615) (by decide +kernel)⟩
theorem lw_p77 : lw_okq (⟨"TeaTrolleyModel", "goesIn", "()Z"⟩, 62) := ⟨⟨by decide +kernel, by decide +kernel⟩, List.mem_of_getElem? (i := 1277) (by decide +kernel), List.mem_of_getElem? (i := 1618) (by decide +kernel), List.mem_of_getElem? (i := 1619) (by decide +kernel)⟩
theorem lw_p78 : lw_okq (⟨"TeaTrolleyModel", "unit", "()Z"⟩, 62) := ⟨⟨by decide +kernel, by decide +kernel⟩, List.mem_of_getElem? (i := 1277) (by decide +kernel), List.mem_of_getElem? (i := 1632) (by decide +kernel), List.mem_of_getElem? (i := 1633) (by decide +kernel)⟩
theorem lw_p79 : lw_okq (⟨"TeaTrolleyModel", "readRound", "()V"⟩, 62) := ⟨⟨by decide +kernel, by decide +kernel⟩, List.mem_of_getElem? (i := 1277) (by decide +kernel), List.mem_of_getElem? (i := 1636) (by decide +kernel), List.mem_of_getElem? (i := 1637) (by decide +kernel)⟩
def lw_privs_5 : List (MethodName × Nat) := [(⟨"TeaTrolleyModel", "number", "(II)I"⟩, 62), (⟨"TeaTrolleyModel", "isDigit", "()Z"⟩, 62), (⟨"TeaTrolleyModel", "here", "()I"⟩, 62), (⟨"TeaTrolleyModel", "isWhole", "()Z"⟩, 62), (⟨"TeaTrolleyModel", "goThrough", "([BII)V"⟩, 62), (⟨"TeaTrolleyModel", "clause", "()V"⟩, 62), (⟨"TeaTrolleyModel", "takes", "(I)Z"⟩, 62), (⟨"TeaTrolleyModel", "condition", "(ZI)Z"⟩, 62), (⟨"TeaTrolleyModel", "part", "(ZI)Z"⟩, 62), (⟨"TeaTrolleyModel", "compares", "(ZI)Z"⟩, 62), (⟨"TeaTrolleyModel", "sum", "()I"⟩, 62), (⟨"TeaTrolleyModel", "term", "()I"⟩, 62), (⟨"TeaTrolleyModel", "atom", "()I"⟩, 62), (⟨"TeaTrolleyModel", "goesIn", "()Z"⟩, 62), (⟨"TeaTrolleyModel", "unit", "()Z"⟩, 62), (⟨"TeaTrolleyModel", "readRound", "()V"⟩, 62)]
theorem lw_r5 : ∀ q ∈ lw_privs_5, lw_okq q := List.forall_mem_cons.mpr ⟨lw_p64, List.forall_mem_cons.mpr ⟨lw_p65, List.forall_mem_cons.mpr ⟨lw_p66, List.forall_mem_cons.mpr ⟨lw_p67, List.forall_mem_cons.mpr ⟨lw_p68, List.forall_mem_cons.mpr ⟨lw_p69, List.forall_mem_cons.mpr ⟨lw_p70, List.forall_mem_cons.mpr ⟨lw_p71, List.forall_mem_cons.mpr ⟨lw_p72, List.forall_mem_cons.mpr ⟨lw_p73, List.forall_mem_cons.mpr ⟨lw_p74, List.forall_mem_cons.mpr ⟨lw_p75, List.forall_mem_cons.mpr ⟨lw_p76, List.forall_mem_cons.mpr ⟨lw_p77, List.forall_mem_cons.mpr ⟨lw_p78, List.forall_mem_cons.mpr ⟨lw_p79, fun _ h => absurd h List.not_mem_nil⟩⟩⟩⟩⟩⟩⟩⟩⟩⟩⟩⟩⟩⟩⟩⟩
theorem lw_p80 : lw_okq (⟨"TeaTrolleyModel", "isRoom", "(I)Z"⟩, 62) := ⟨⟨by decide +kernel, by decide +kernel⟩, List.mem_of_getElem? (i := 1277) (by decide +kernel), List.mem_of_getElem? (i := 1654) (by decide +kernel), List.mem_of_getElem? (i := 1655) (by decide +kernel)⟩
theorem lw_p81 : lw_okq (⟨"TeaTrolleyModel", "of", "(II)I"⟩, 62) := ⟨⟨by decide +kernel, by decide +kernel⟩, List.mem_of_getElem? (i := 1277) (by decide +kernel), List.mem_of_getElem? (i := 1659) (by decide +kernel), List.mem_of_getElem? (i := 1660) (by decide +kernel)⟩
theorem lw_p82 : lw_okq (⟨"TeaTrolleyModel", "isRound", "(I)Z"⟩, 62) := ⟨⟨by decide +kernel, by decide +kernel⟩, List.mem_of_getElem? (i := 1277) (by decide +kernel), List.mem_of_getElem? (i := 1671) (by decide +kernel), List.mem_of_getElem? (i := 1672) (by decide +kernel)⟩
theorem lw_p83 : lw_okq (⟨"TeaTrolleyModel", "stepsTo", "(II)I"⟩, 62) := ⟨⟨by decide +kernel, by decide +kernel⟩, List.mem_of_getElem? (i := 1277) (by decide +kernel), List.mem_of_getElem? (i := 1690) (by decide +kernel), List.mem_of_getElem? (i := 1691) (by decide +kernel)⟩
theorem lw_p84 : lw_okq (⟨"TeaTrolleyModel", "remember", "()V"⟩, 62) := ⟨⟨by decide +kernel, by decide +kernel⟩, List.mem_of_getElem? (i := 1277) (by decide +kernel), List.mem_of_getElem? (i := 1699) (by decide +kernel), List.mem_of_getElem? (i := 1700) (by decide +kernel)⟩
theorem lw_p85 : lw_okq (⟨"TeaTrolleyModel", "goDay", "()V"⟩, 62) := ⟨⟨by decide +kernel, by decide +kernel⟩, List.mem_of_getElem? (i := 1277) (by decide +kernel), List.mem_of_getElem? (i := 1703) (by decide +kernel), List.mem_of_getElem? (i := 1704) (by decide +kernel)⟩
theorem lw_p86 : lw_okq (⟨"TeaTrolleyModel", "goNow", "()V"⟩, 62) := ⟨⟨by decide +kernel, by decide +kernel⟩, List.mem_of_getElem? (i := 1277) (by decide +kernel), List.mem_of_getElem? (i := 1707) (by decide +kernel), List.mem_of_getElem? (i := 1708) (by decide +kernel)⟩
theorem lw_p87 : lw_okq (⟨"TeaTrolleyModel", "goRound", "(IZ)V"⟩, 62) := ⟨⟨by decide +kernel, by decide +kernel⟩, List.mem_of_getElem? (i := 1277) (by decide +kernel), List.mem_of_getElem? (i := 1711) (by decide +kernel), List.mem_of_getElem? (i := 1712) (by decide +kernel)⟩
theorem lw_p88 : lw_okq (⟨"TeaTrolleyModel", "setsOut", "()V"⟩, 62) := ⟨⟨by decide +kernel, by decide +kernel⟩, List.mem_of_getElem? (i := 1277) (by decide +kernel), List.mem_of_getElem? (i := 1715) (by decide +kernel), List.mem_of_getElem? (i := 1716) (by decide +kernel)⟩
theorem lw_p89 : lw_okq (⟨"TeaTrolleyModel", "comesTo", "(I)V"⟩, 62) := ⟨⟨by decide +kernel, by decide +kernel⟩, List.mem_of_getElem? (i := 1277) (by decide +kernel), List.mem_of_getElem? (i := 1719) (by decide +kernel), List.mem_of_getElem? (i := 1720) (by decide +kernel)⟩
theorem lw_p90 : lw_okq (⟨"TeaTrolleyModel", "cools", "(IIIIII)I"⟩, 62) := ⟨⟨by decide +kernel, by decide +kernel⟩, List.mem_of_getElem? (i := 1277) (by decide +kernel), List.mem_of_getElem? (i := 1723) (by decide +kernel), List.mem_of_getElem? (i := 1724) (by decide +kernel)⟩
theorem lw_p91 : lw_okq (⟨"TeaTrolleyModel", "worthNow", "()I"⟩, 62) := ⟨⟨by decide +kernel, by decide +kernel⟩, List.mem_of_getElem? (i := 1277) (by decide +kernel), List.mem_of_getElem? (i := 1727) (by decide +kernel), List.mem_of_getElem? (i := 1728) (by decide +kernel)⟩
theorem lw_p92 : lw_okq (⟨"TeaTrolleyModel", "draw", "(I)I"⟩, 62) := ⟨⟨by decide +kernel, by decide +kernel⟩, List.mem_of_getElem? (i := 1277) (by decide +kernel), List.mem_of_getElem? (i := 1762) (by decide +kernel), List.mem_of_getElem? (i := 1763) (by decide +kernel)⟩
theorem lw_p93 : lw_okq (⟨"TeaTrolleyModel", "goBest", "(II)V"⟩, 62) := ⟨⟨by decide +kernel, by decide +kernel⟩, List.mem_of_getElem? (i := 1277) (by decide +kernel), List.mem_of_getElem? (i := 1784) (by decide +kernel), List.mem_of_getElem? (i := 1785) (by decide +kernel)⟩
theorem lw_p94 : lw_okq (⟨"TeaTrolleyModel", "again", "(IIIIII)V"⟩, 62) := ⟨⟨by decide +kernel, by decide +kernel⟩, List.mem_of_getElem? (i := 1277) (by decide +kernel), List.mem_of_getElem? (i := 1788) (by decide +kernel), List.mem_of_getElem? (i := 1789) (by decide +kernel)⟩
theorem lw_p95 : lw_okq (⟨"TeaTrolleyModel", "goShort", "(II)V"⟩, 62) := ⟨⟨by decide +kernel, by decide +kernel⟩, List.mem_of_getElem? (i := 1277) (by decide +kernel), List.mem_of_getElem? (i := 1796) (by decide +kernel), List.mem_of_getElem? (i := 1797) (by decide +kernel)⟩
def lw_privs_6 : List (MethodName × Nat) := [(⟨"TeaTrolleyModel", "isRoom", "(I)Z"⟩, 62), (⟨"TeaTrolleyModel", "of", "(II)I"⟩, 62), (⟨"TeaTrolleyModel", "isRound", "(I)Z"⟩, 62), (⟨"TeaTrolleyModel", "stepsTo", "(II)I"⟩, 62), (⟨"TeaTrolleyModel", "remember", "()V"⟩, 62), (⟨"TeaTrolleyModel", "goDay", "()V"⟩, 62), (⟨"TeaTrolleyModel", "goNow", "()V"⟩, 62), (⟨"TeaTrolleyModel", "goRound", "(IZ)V"⟩, 62), (⟨"TeaTrolleyModel", "setsOut", "()V"⟩, 62), (⟨"TeaTrolleyModel", "comesTo", "(I)V"⟩, 62), (⟨"TeaTrolleyModel", "cools", "(IIIIII)I"⟩, 62), (⟨"TeaTrolleyModel", "worthNow", "()I"⟩, 62), (⟨"TeaTrolleyModel", "draw", "(I)I"⟩, 62), (⟨"TeaTrolleyModel", "goBest", "(II)V"⟩, 62), (⟨"TeaTrolleyModel", "again", "(IIIIII)V"⟩, 62), (⟨"TeaTrolleyModel", "goShort", "(II)V"⟩, 62)]
theorem lw_r6 : ∀ q ∈ lw_privs_6, lw_okq q := List.forall_mem_cons.mpr ⟨lw_p80, List.forall_mem_cons.mpr ⟨lw_p81, List.forall_mem_cons.mpr ⟨lw_p82, List.forall_mem_cons.mpr ⟨lw_p83, List.forall_mem_cons.mpr ⟨lw_p84, List.forall_mem_cons.mpr ⟨lw_p85, List.forall_mem_cons.mpr ⟨lw_p86, List.forall_mem_cons.mpr ⟨lw_p87, List.forall_mem_cons.mpr ⟨lw_p88, List.forall_mem_cons.mpr ⟨lw_p89, List.forall_mem_cons.mpr ⟨lw_p90, List.forall_mem_cons.mpr ⟨lw_p91, List.forall_mem_cons.mpr ⟨lw_p92, List.forall_mem_cons.mpr ⟨lw_p93, List.forall_mem_cons.mpr ⟨lw_p94, List.forall_mem_cons.mpr ⟨lw_p95, fun _ h => absurd h List.not_mem_nil⟩⟩⟩⟩⟩⟩⟩⟩⟩⟩⟩⟩⟩⟩⟩⟩
theorem lw_p96 : lw_okq (⟨"TeaTrolleyModel", "layFits", "(II)V"⟩, 62) := ⟨⟨by decide +kernel, by decide +kernel⟩, List.mem_of_getElem? (i := 1277) (by decide +kernel), List.mem_of_getElem? (i := 1813) (by decide +kernel), List.mem_of_getElem? (i := 1814) (by decide +kernel)⟩
theorem lw_p97 : lw_okq (⟨"TeaTrolleyModel", "goFits", "(IIII)V"⟩, 62) := ⟨⟨by decide +kernel, by decide +kernel⟩, List.mem_of_getElem? (i := 1277) (by decide +kernel), List.mem_of_getElem? (i := 1817) (by decide +kernel), List.mem_of_getElem? (i := 1818) (by decide +kernel)⟩
theorem lw_p98 : lw_okq (⟨"TeaTrolleyModel", "isSeen", "(II)Z"⟩, 62) := ⟨⟨by decide +kernel, by decide +kernel⟩, List.mem_of_getElem? (i := 1277) (by decide +kernel), List.mem_of_getElem? (i := 1821) (by decide +kernel), List.mem_of_getElem? (i := 1822) (by decide +kernel)⟩
theorem lw_p99 : lw_okq (⟨"TeaTrolleyModel", "isGame", "(II)Z"⟩, 62) := ⟨⟨by decide +kernel, by decide +kernel⟩, List.mem_of_getElem? (i := 1277) (by decide +kernel), List.mem_of_getElem? (i := 1846) (by decide +kernel), List.mem_of_getElem? (i := 1847) (by decide +kernel)⟩
theorem lw_p100 : lw_okq (⟨"TeaTrolleyModel", "gameOf", "(III)I"⟩, 62) := ⟨⟨by decide +kernel, by decide +kernel⟩, List.mem_of_getElem? (i := 1277) (by decide +kernel), List.mem_of_getElem? (i := 1850) (by decide +kernel), List.mem_of_getElem? (i := 1851) (by decide +kernel)⟩
theorem lw_p101 : lw_okq (⟨"TeaTrolleyModel", "warmth", "(I)I"⟩, 62) := ⟨⟨by decide +kernel, by decide +kernel⟩, List.mem_of_getElem? (i := 1277) (by decide +kernel), List.mem_of_getElem? (i := 1854) (by decide +kernel), List.mem_of_getElem? (i := 1855) (by decide +kernel)⟩
theorem lw_p102 : lw_okq (⟨"TeaTrolleyModel", "oddsFrom", "(IIIIIIII)I"⟩, 62) := ⟨⟨by decide +kernel, by decide +kernel⟩, List.mem_of_getElem? (i := 1277) (by decide +kernel), List.mem_of_getElem? (i := 1875) (by decide +kernel), List.mem_of_getElem? (i := 1876) (by decide +kernel)⟩
theorem lw_p103 : lw_okq (⟨"TeaTrolleyModel", "workers", "()I"⟩, 62) := ⟨⟨by decide +kernel, by decide +kernel⟩, List.mem_of_getElem? (i := 1277) (by decide +kernel), List.mem_of_getElem? (i := 1887) (by decide +kernel), List.mem_of_getElem? (i := 1888) (by decide +kernel)⟩
def lw_privs_7 : List (MethodName × Nat) := [(⟨"TeaTrolleyModel", "layFits", "(II)V"⟩, 62), (⟨"TeaTrolleyModel", "goFits", "(IIII)V"⟩, 62), (⟨"TeaTrolleyModel", "isSeen", "(II)Z"⟩, 62), (⟨"TeaTrolleyModel", "isGame", "(II)Z"⟩, 62), (⟨"TeaTrolleyModel", "gameOf", "(III)I"⟩, 62), (⟨"TeaTrolleyModel", "warmth", "(I)I"⟩, 62), (⟨"TeaTrolleyModel", "oddsFrom", "(IIIIIIII)I"⟩, 62), (⟨"TeaTrolleyModel", "workers", "()I"⟩, 62)]
theorem lw_r7 : ∀ q ∈ lw_privs_7, lw_okq q := List.forall_mem_cons.mpr ⟨lw_p96, List.forall_mem_cons.mpr ⟨lw_p97, List.forall_mem_cons.mpr ⟨lw_p98, List.forall_mem_cons.mpr ⟨lw_p99, List.forall_mem_cons.mpr ⟨lw_p100, List.forall_mem_cons.mpr ⟨lw_p101, List.forall_mem_cons.mpr ⟨lw_p102, List.forall_mem_cons.mpr ⟨lw_p103, fun _ h => absurd h List.not_mem_nil⟩⟩⟩⟩⟩⟩⟩⟩
def lw_privs : List (MethodName × Nat) := lw_privs_1 ++ (lw_privs_2 ++ (lw_privs_3 ++ (lw_privs_4 ++ (lw_privs_5 ++ (lw_privs_6 ++ (lw_privs_7))))))
def lw_tbl : List Cond := k2_sels lw_privs ++ tables_1
theorem lw_privs_ok : ∀ q ∈ lw_privs, lw_okq q := by
  show ∀ q ∈ lw_privs_1 ++ (lw_privs_2 ++ (lw_privs_3 ++ (lw_privs_4 ++ (lw_privs_5 ++ (lw_privs_6 ++ (lw_privs_7)))))), lw_okq q
  exact List.forall_mem_append.mpr ⟨lw_r1, List.forall_mem_append.mpr ⟨lw_r2, List.forall_mem_append.mpr ⟨lw_r3, List.forall_mem_append.mpr ⟨lw_r4, List.forall_mem_append.mpr ⟨lw_r5, List.forall_mem_append.mpr ⟨lw_r6, lw_r7⟩⟩⟩⟩⟩⟩
end
section
def RX0 : String := "TeaTrolley$Law"
def TX0 : u_T := fun k => match k with
  | 0 => ("TeaTrolley$Law", "code", "[I", true)
  | 1 => ("TeaTrolley$Law", "stack", "[I", true)
  | 2 => ("TeaTrolley$Law", "size", "I", false)
  | _ => ("TeaTrolley$Law", "top", "I", false)
def tyX0 : Nat → FieldType := fun k => match k with
  | 0 => .array .int
  | 1 => .array .int
  | 2 => .int
  | _ => .int
abbrev wsX00 : List Cond := u_ws RX0 TX0 4
theorem nmX0 : ∀ a, a < 4 → ∀ b, b < 4 → a ≠ b → (TX0 a).2.1 ≠ (TX0 b).2.1 := by decide +kernel
theorem tyX0_ok : ∀ k, k < 4 → parseFieldDescriptor (TX0 k).2.2.1 = some (tyX0 k) := by decide +kernel
abbrev cX0_init : ByteArray := prog_2_method_1_code
def yX0_init : MethodName := ⟨RX0, "<init>", "()V"⟩
abbrev cX0_clear : ByteArray := prog_2_method_2_code
def yX0_clear : MethodName := ⟨RX0, "clear", "()V"⟩
abbrev cX0_copy : ByteArray := prog_2_method_3_code
def yX0_copy : MethodName := ⟨RX0, "copy", "(LTeaTrolley$Law;)V"⟩
abbrev cX0_put : ByteArray := prog_2_method_4_code
def yX0_put : MethodName := ⟨RX0, "put", "(I)I"⟩
abbrev cX0_aim : ByteArray := prog_2_method_5_code
def yX0_aim : MethodName := ⟨RX0, "aim", "(I)V"⟩
abbrev cX0_worth : ByteArray := prog_2_method_6_code
def yX0_worth : MethodName := ⟨RX0, "worth", "([I)I"⟩
abbrev cX0_joined : ByteArray := prog_2_method_7_code
def yX0_joined : MethodName := ⟨RX0, "joined", "(III)I"⟩
abbrev cX0_push : ByteArray := prog_2_method_8_code
def yX0_push : MethodName := ⟨RX0, "push", "(I)V"⟩
abbrev cX0_pop : ByteArray := prog_2_method_9_code
def yX0_pop : MethodName := ⟨RX0, "pop", "()I"⟩
def RX1 : String := "TeaTrolley$LawText"
def TX1 : u_T := fun k => match k with
  | 0 => ("TeaTrolley$LawText", "draft", "LTeaTrolley$Law;", true)
  | 1 => ("TeaTrolley$LawText", "tape", "LTeaTrolley$Tape;", true)
  | _ => ("TeaTrolley$LawText", "pos", "I", false)
def tyX1 : Nat → FieldType := fun k => match k with
  | 0 => .object "TeaTrolley$Law"
  | 1 => .object "TeaTrolley$Tape"
  | _ => .int
abbrev wsX10 : List Cond := u_ws RX1 TX1 3
theorem nmX1 : ∀ a, a < 3 → ∀ b, b < 3 → a ≠ b → (TX1 a).2.1 ≠ (TX1 b).2.1 := by decide +kernel
theorem tyX1_ok : ∀ k, k < 3 → parseFieldDescriptor (TX1 k).2.2.1 = some (tyX1 k) := by decide +kernel
abbrev cX1_init : ByteArray := prog_3_method_1_code
def yX1_init : MethodName := ⟨RX1, "<init>", "(LTeaTrolley$Tape;)V"⟩
abbrev cX1_read : ByteArray := prog_3_method_2_code
def yX1_read : MethodName := ⟨RX1, "read", "()I"⟩
abbrev cX1_here : ByteArray := prog_3_method_3_code
def yX1_here : MethodName := ⟨RX1, "here", "()I"⟩
abbrev cX1_goOn : ByteArray := prog_3_method_4_code
def yX1_goOn : MethodName := ⟨RX1, "goOn", "()V"⟩
abbrev cX1_readSign : ByteArray := prog_3_method_5_code
def yX1_readSign : MethodName := ⟨RX1, "readSign", "(I)Z"⟩
abbrev cX1_readClause : ByteArray := prog_3_method_6_code
def yX1_readClause : MethodName := ⟨RX1, "readClause", "()Z"⟩
abbrev cX1_atClauseEnd : ByteArray := prog_3_method_7_code
def yX1_atClauseEnd : MethodName := ⟨RX1, "atClauseEnd", "()Z"⟩
abbrev cX1_readCase : ByteArray := prog_3_method_8_code
def yX1_readCase : MethodName := ⟨RX1, "readCase", "(Z)Z"⟩
abbrev cX1_readCondition : ByteArray := prog_3_method_9_code
def yX1_readCondition : MethodName := ⟨RX1, "readCondition", "(IZ)Z"⟩
abbrev cX1_readTruth : ByteArray := prog_3_method_10_code
def yX1_readTruth : MethodName := ⟨RX1, "readTruth", "(IZ)Z"⟩
abbrev cX1_readUnit : ByteArray := prog_3_method_11_code
def yX1_readUnit : MethodName := ⟨RX1, "readUnit", "(IZ)Z"⟩
abbrev cX1_readNot : ByteArray := prog_3_method_12_code
def yX1_readNot : MethodName := ⟨RX1, "readNot", "(I)Z"⟩
abbrev cX1_goDeeper : ByteArray := prog_3_method_13_code
def yX1_goDeeper : MethodName := ⟨RX1, "goDeeper", "(I)Z"⟩
abbrev cX1_comparison : ByteArray := prog_3_method_14_code
def yX1_comparison : MethodName := ⟨RX1, "comparison", "()I"⟩
abbrev cX1_readSum : ByteArray := prog_3_method_15_code
def yX1_readSum : MethodName := ⟨RX1, "readSum", "(I)Z"⟩
abbrev cX1_readTerm : ByteArray := prog_3_method_16_code
def yX1_readTerm : MethodName := ⟨RX1, "readTerm", "(I)Z"⟩
abbrev cX1_readAtom : ByteArray := prog_3_method_17_code
def yX1_readAtom : MethodName := ⟨RX1, "readAtom", "(I)Z"⟩
abbrev cX1_readNumber : ByteArray := prog_3_method_18_code
def yX1_readNumber : MethodName := ⟨RX1, "readNumber", "()Z"⟩
def RX2 : String := "TeaTrolley$Office"
def TX2 : u_T := fun k => match k with
  | 0 => ("TeaTrolley$Office", "rules", "[I", true)
  | 1 => ("TeaTrolley$Office", "traits", "[I", true)
  | 2 => ("TeaTrolley$Office", "distances", "[I", true)
  | _ => ("TeaTrolley$Office", "rooms", "I", false)
def tyX2 : Nat → FieldType := fun k => match k with
  | 0 => .array .int
  | 1 => .array .int
  | 2 => .array .int
  | _ => .int
abbrev wsX20 : List Cond := u_ws RX2 TX2 4
theorem nmX2 : ∀ a, a < 4 → ∀ b, b < 4 → a ≠ b → (TX2 a).2.1 ≠ (TX2 b).2.1 := by decide +kernel
theorem tyX2_ok : ∀ k, k < 4 → parseFieldDescriptor (TX2 k).2.2.1 = some (tyX2 k) := by decide +kernel
abbrev cX2_init : ByteArray := prog_4_method_1_code
def yX2_init : MethodName := ⟨RX2, "<init>", "()V"⟩
abbrev cX2_clear : ByteArray := prog_4_method_2_code
def yX2_clear : MethodName := ⟨RX2, "clear", "()V"⟩
abbrev cX2_addRoom : ByteArray := prog_4_method_3_code
def yX2_addRoom : MethodName := ⟨RX2, "addRoom", "()V"⟩
abbrev cX2_hasTwoInOnePlace : ByteArray := prog_4_method_4_code
def yX2_hasTwoInOnePlace : MethodName := ⟨RX2, "hasTwoInOnePlace", "()Z"⟩
abbrev cX2_copy : ByteArray := prog_4_method_5_code
def yX2_copy : MethodName := ⟨RX2, "copy", "(LTeaTrolley$Office;)V"⟩
abbrev cX2_distance : ByteArray := prog_4_method_6_code
def yX2_distance : MethodName := ⟨RX2, "distance", "(III)I"⟩
abbrev cX2_trait : ByteArray := prog_4_method_7_code
def yX2_trait : MethodName := ⟨RX2, "trait", "(II)I"⟩
abbrev cX2_apart : ByteArray := prog_4_method_8_code
def yX2_apart : MethodName := ⟨RX2, "apart", "(II)I"⟩
abbrev cX2_everyRoom : ByteArray := prog_4_method_9_code
def yX2_everyRoom : MethodName := ⟨RX2, "everyRoom", "()I"⟩
def RX3 : String := "TeaTrolley$OfficeText"
def TX3 : u_T := fun k => match k with
  | 0 => ("TeaTrolley$OfficeText", "draft", "LTeaTrolley$Office;", true)
  | 1 => ("TeaTrolley$OfficeText", "tape", "LTeaTrolley$Tape;", true)
  | _ => ("TeaTrolley$OfficeText", "pos", "I", false)
def tyX3 : Nat → FieldType := fun k => match k with
  | 0 => .object "TeaTrolley$Office"
  | 1 => .object "TeaTrolley$Tape"
  | _ => .int
abbrev wsX30 : List Cond := u_ws RX3 TX3 3
theorem nmX3 : ∀ a, a < 3 → ∀ b, b < 3 → a ≠ b → (TX3 a).2.1 ≠ (TX3 b).2.1 := by decide +kernel
theorem tyX3_ok : ∀ k, k < 3 → parseFieldDescriptor (TX3 k).2.2.1 = some (tyX3 k) := by decide +kernel
abbrev cX3_init : ByteArray := prog_5_method_1_code
def yX3_init : MethodName := ⟨RX3, "<init>", "(LTeaTrolley$Tape;)V"⟩
abbrev cX3_read : ByteArray := prog_5_method_2_code
def yX3_read : MethodName := ⟨RX3, "read", "()I"⟩
abbrev cX3_readRules : ByteArray := prog_5_method_3_code
def yX3_readRules : MethodName := ⟨RX3, "readRules", "()Z"⟩
abbrev cX3_readRoom : ByteArray := prog_5_method_4_code
def yX3_readRoom : MethodName := ⟨RX3, "readRoom", "()Z"⟩
abbrev cX3_readItems : ByteArray := prog_5_method_5_code
def yX3_readItems : MethodName := ⟨RX3, "readItems", "(Ljava/lang/String;[I[I[II)Z"⟩
abbrev cX3_readNumber : ByteArray := prog_5_method_6_code
def yX3_readNumber : MethodName := ⟨RX3, "readNumber", "(II)I"⟩
def RX4 : String := "TeaTrolley$Past"
def TX4 : u_T := fun k => match k with
  | 0 => ("TeaTrolley$Past", "acts", "[LTeaTrolley$State;", true)
  | 1 => ("TeaTrolley$Past", "log", "[I", true)
  | 2 => ("TeaTrolley$Past", "imageState", "LTeaTrolley$State;", true)
  | 3 => ("TeaTrolley$Past", "imageLog", "[I", true)
  | 4 => ("TeaTrolley$Past", "next", "I", false)
  | 5 => ("TeaTrolley$Past", "undoable", "I", false)
  | _ => ("TeaTrolley$Past", "hasImage", "Z", false)
def tyX4 : Nat → FieldType := fun k => match k with
  | 0 => .array (.object "TeaTrolley$State")
  | 1 => .array .int
  | 2 => .object "TeaTrolley$State"
  | 3 => .array .int
  | 4 => .int
  | 5 => .int
  | _ => .boolean
abbrev wsX40 : List Cond := u_ws RX4 TX4 7
theorem nmX4 : ∀ a, a < 7 → ∀ b, b < 7 → a ≠ b → (TX4 a).2.1 ≠ (TX4 b).2.1 := by decide +kernel
theorem tyX4_ok : ∀ k, k < 7 → parseFieldDescriptor (TX4 k).2.2.1 = some (tyX4 k) := by decide +kernel
abbrev cX4_init : ByteArray := prog_6_method_1_code
def yX4_init : MethodName := ⟨RX4, "<init>", "()V"⟩
abbrev cX4_forget : ByteArray := prog_6_method_2_code
def yX4_forget : MethodName := ⟨RX4, "forget", "()V"⟩
abbrev cX4_remember : ByteArray := prog_6_method_3_code
def yX4_remember : MethodName := ⟨RX4, "remember", "(LTeaTrolley$State;)V"⟩
abbrev cX4_stepBack : ByteArray := prog_6_method_4_code
def yX4_stepBack : MethodName := ⟨RX4, "stepBack", "(LTeaTrolley$State;)V"⟩
abbrev cX4_note : ByteArray := prog_6_method_5_code
def yX4_note : MethodName := ⟨RX4, "note", "(IIII)V"⟩
abbrev cX4_noted : ByteArray := prog_6_method_6_code
def yX4_noted : MethodName := ⟨RX4, "noted", "(II)I"⟩
abbrev cX4_placeOf : ByteArray := prog_6_method_7_code
def yX4_placeOf : MethodName := ⟨RX4, "placeOf", "(I)I"⟩
abbrev cX4_keep : ByteArray := prog_6_method_8_code
def yX4_keep : MethodName := ⟨RX4, "keep", "(LTeaTrolley$State;)V"⟩
abbrev cX4_bringBack : ByteArray := prog_6_method_9_code
def yX4_bringBack : MethodName := ⟨RX4, "bringBack", "(LTeaTrolley$State;)V"⟩
def RX5 : String := "TeaTrolley$Search"
def TX5 : u_T := fun k => match k with
  | 0 => ("TeaTrolley$Search", "ways", "LTeaTrolley$Ways;", true)
  | 1 => ("TeaTrolley$Search", "bestKnown", "Z", false)
  | 2 => ("TeaTrolley$Search", "rowLength", "I", false)
  | 3 => ("TeaTrolley$Search", "bestRow", "I", false)
  | 4 => ("TeaTrolley$Search", "bestHot", "I", false)
  | 5 => ("TeaTrolley$Search", "shortRow", "I", false)
  | _ => ("TeaTrolley$Search", "shortMinutes", "I", false)
def tyX5 : Nat → FieldType := fun k => match k with
  | 0 => .object "TeaTrolley$Ways"
  | 1 => .boolean
  | 2 => .int
  | 3 => .int
  | 4 => .int
  | 5 => .int
  | _ => .int
abbrev wsX50 : List Cond := u_ws RX5 TX5 7
theorem nmX5 : ∀ a, a < 7 → ∀ b, b < 7 → a ≠ b → (TX5 a).2.1 ≠ (TX5 b).2.1 := by decide +kernel
theorem tyX5_ok : ∀ k, k < 7 → parseFieldDescriptor (TX5 k).2.2.1 = some (tyX5 k) := by decide +kernel
abbrev cX5_init : ByteArray := prog_7_method_1_code
def yX5_init : MethodName := ⟨RX5, "<init>", "(LTeaTrolley$Ways;)V"⟩
abbrev cX5_forget : ByteArray := prog_7_method_2_code
def yX5_forget : MethodName := ⟨RX5, "forget", "()V"⟩
abbrev cX5_findBest : ByteArray := prog_7_method_3_code
def yX5_findBest : MethodName := ⟨RX5, "findBest", "()V"⟩
abbrev cX5_tryHot : ByteArray := prog_7_method_4_code
def yX5_tryHot : MethodName := ⟨RX5, "tryHot", "(IIIIII)V"⟩
abbrev cX5_mostHot : ByteArray := prog_7_method_5_code
def yX5_mostHot : MethodName := ⟨RX5, "mostHot", "(IIII)I"⟩
abbrev cX5_findShortest : ByteArray := prog_7_method_6_code
def yX5_findShortest : MethodName := ⟨RX5, "findShortest", "(I)V"⟩
abbrev cX5_tryShort : ByteArray := prog_7_method_7_code
def yX5_tryShort : MethodName := ⟨RX5, "tryShort", "(IIIIII)V"⟩
abbrev cX5_isHopeless : ByteArray := prog_7_method_8_code
def yX5_isHopeless : MethodName := ⟨RX5, "isHopeless", "(IIIII)Z"⟩
abbrev cX5_allHot : ByteArray := prog_7_method_9_code
def yX5_allHot : MethodName := ⟨RX5, "allHot", "(III)Z"⟩
def RX6 : String := "TeaTrolley$Sightings"
def TX6 : u_T := fun k => match k with
  | 0 => ("TeaTrolley$Sightings", "ways", "LTeaTrolley$Ways;", true)
  | 1 => ("TeaTrolley$Sightings", "earliest", "[I", true)
  | 2 => ("TeaTrolley$Sightings", "latest", "[I", true)
  | 3 => ("TeaTrolley$Sightings", "yes", "[I", true)
  | 4 => ("TeaTrolley$Sightings", "longest", "[I", true)
  | 5 => ("TeaTrolley$Sightings", "minute", "I", false)
  | _ => ("TeaTrolley$Sightings", "told", "I", false)
def tyX6 : Nat → FieldType := fun k => match k with
  | 0 => .object "TeaTrolley$Ways"
  | 1 => .array .int
  | 2 => .array .int
  | 3 => .array .int
  | 4 => .array .int
  | 5 => .int
  | _ => .int
abbrev wsX60 : List Cond := u_ws RX6 TX6 7
theorem nmX6 : ∀ a, a < 7 → ∀ b, b < 7 → a ≠ b → (TX6 a).2.1 ≠ (TX6 b).2.1 := by decide +kernel
theorem tyX6_ok : ∀ k, k < 7 → parseFieldDescriptor (TX6 k).2.2.1 = some (tyX6 k) := by decide +kernel
abbrev cX6_init : ByteArray := prog_8_method_1_code
def yX6_init : MethodName := ⟨RX6, "<init>", "(LTeaTrolley$Ways;)V"⟩
abbrev cX6_forget : ByteArray := prog_8_method_2_code
def yX6_forget : MethodName := ⟨RX6, "forget", "()V"⟩
abbrev cX6_add : ByteArray := prog_8_method_3_code
def yX6_add : MethodName := ⟨RX6, "add", "(IIZ)Z"⟩
abbrev cX6_fitting : ByteArray := prog_8_method_4_code
def yX6_fitting : MethodName := ⟨RX6, "fitting", "()I"⟩
abbrev cX6_begin : ByteArray := prog_8_method_5_code
def yX6_begin : MethodName := ⟨RX6, "begin", "(I)V"⟩
abbrev cX6_fittingRow : ByteArray := prog_8_method_6_code
def yX6_fittingRow : MethodName := ⟨RX6, "fittingRow", "(I)I"⟩
abbrev cX6_evenest : ByteArray := prog_8_method_7_code
def yX6_evenest : MethodName := ⟨RX6, "evenest", "(I)I"⟩
abbrev cX6_countRows : ByteArray := prog_8_method_8_code
def yX6_countRows : MethodName := ⟨RX6, "countRows", "(III)I"⟩
abbrev cX6_countOrders : ByteArray := prog_8_method_9_code
def yX6_countOrders : MethodName := ⟨RX6, "countOrders", "(IZ)I"⟩
abbrev cX6_countFrom : ByteArray := prog_8_method_10_code
def yX6_countFrom : MethodName := ⟨RX6, "countFrom", "(IIII)I"⟩
def RX7 : String := "TeaTrolley$State"
def TX7 : u_T := fun k => match k with
  | 0 => ("TeaTrolley$State", "workers", "[I", true)
  | 1 => ("TeaTrolley$State", "frost", "[I", true)
  | 2 => ("TeaTrolley$State", "doors", "I", false)
  | 3 => ("TeaTrolley$State", "pace", "I", false)
  | 4 => ("TeaTrolley$State", "heat", "I", false)
  | 5 => ("TeaTrolley$State", "cups", "I", false)
  | 6 => ("TeaTrolley$State", "works", "I", false)
  | _ => ("TeaTrolley$State", "day", "I", false)
def tyX7 : Nat → FieldType := fun k => match k with
  | 0 => .array .int
  | 1 => .array .int
  | 2 => .int
  | 3 => .int
  | 4 => .int
  | 5 => .int
  | 6 => .int
  | _ => .int
abbrev wsX70 : List Cond := u_ws RX7 TX7 8
theorem nmX7 : ∀ a, a < 8 → ∀ b, b < 8 → a ≠ b → (TX7 a).2.1 ≠ (TX7 b).2.1 := by decide +kernel
theorem tyX7_ok : ∀ k, k < 8 → parseFieldDescriptor (TX7 k).2.2.1 = some (tyX7 k) := by decide +kernel
abbrev cX7_init : ByteArray := prog_9_method_1_code
def yX7_init : MethodName := ⟨RX7, "<init>", "()V"⟩
abbrev cX7_begin : ByteArray := prog_9_method_2_code
def yX7_begin : MethodName := ⟨RX7, "begin", "(LTeaTrolley$Office;)V"⟩
abbrev cX7_copy : ByteArray := prog_9_method_3_code
def yX7_copy : MethodName := ⟨RX7, "copy", "(LTeaTrolley$State;)V"⟩
abbrev cX7_workersOfAll : ByteArray := prog_9_method_4_code
def yX7_workersOfAll : MethodName := ⟨RX7, "workersOfAll", "()I"⟩
def RX8 : String := "TeaTrolley$Tape"
def TX8 : u_T := fun k => match k with
  | 0 => ("TeaTrolley$Tape", "bytes", "[I", true)
  | _ => ("TeaTrolley$Tape", "length", "I", false)
def tyX8 : Nat → FieldType := fun k => match k with
  | 0 => .array .int
  | _ => .int
abbrev wsX80 : List Cond := u_ws RX8 TX8 2
theorem nmX8 : ∀ a, a < 2 → ∀ b, b < 2 → a ≠ b → (TX8 a).2.1 ≠ (TX8 b).2.1 := by decide +kernel
theorem tyX8_ok : ∀ k, k < 2 → parseFieldDescriptor (TX8 k).2.2.1 = some (tyX8 k) := by decide +kernel
abbrev cX8_init : ByteArray := prog_10_method_1_code
def yX8_init : MethodName := ⟨RX8, "<init>", "()V"⟩
abbrev cX8_take : ByteArray := prog_10_method_2_code
def yX8_take : MethodName := ⟨RX8, "take", "(IIIII)Z"⟩
abbrev cX8_signs : ByteArray := prog_10_method_3_code
def yX8_signs : MethodName := ⟨RX8, "signs", "(I)I"⟩
abbrev cX8_put : ByteArray := prog_10_method_4_code
def yX8_put : MethodName := ⟨RX8, "put", "(I)V"⟩
abbrev cX8_cut : ByteArray := prog_10_method_5_code
def yX8_cut : MethodName := ⟨RX8, "cut", "(I)Z"⟩
abbrev cX8_at : ByteArray := prog_10_method_6_code
def yX8_at : MethodName := ⟨RX8, "at", "(I)I"⟩
abbrev cX8_pastBlanks : ByteArray := prog_10_method_7_code
def yX8_pastBlanks : MethodName := ⟨RX8, "pastBlanks", "(I)I"⟩
abbrev cX8_digits : ByteArray := prog_10_method_8_code
def yX8_digits : MethodName := ⟨RX8, "digits", "(II)I"⟩
abbrev cX8_number : ByteArray := prog_10_method_9_code
def yX8_number : MethodName := ⟨RX8, "number", "(II)I"⟩
def RX9 : String := "TeaTrolley$Walk"
def TX9 : u_T := fun k => match k with
  | 0 => ("TeaTrolley$Walk", "minutes", "[I", true)
  | 1 => ("TeaTrolley$Walk", "heats", "[I", true)
  | 2 => ("TeaTrolley$Walk", "cups", "[I", true)
  | 3 => ("TeaTrolley$Walk", "order", "[I", true)
  | 4 => ("TeaTrolley$Walk", "ways", "LTeaTrolley$Ways;", true)
  | 5 => ("TeaTrolley$Walk", "length", "I", false)
  | 6 => ("TeaTrolley$Walk", "goal", "I", false)
  | 7 => ("TeaTrolley$Walk", "chance", "I", false)
  | 8 => ("TeaTrolley$Walk", "came", "I", false)
  | 9 => ("TeaTrolley$Walk", "tea", "I", false)
  | 10 => ("TeaTrolley$Walk", "hot", "I", false)
  | 11 => ("TeaTrolley$Walk", "whole", "I", false)
  | _ => ("TeaTrolley$Walk", "left", "I", false)
def tyX9 : Nat → FieldType := fun k => match k with
  | 0 => .array .int
  | 1 => .array .int
  | 2 => .array .int
  | 3 => .array .int
  | 4 => .object "TeaTrolley$Ways"
  | 5 => .int
  | 6 => .int
  | 7 => .int
  | 8 => .int
  | 9 => .int
  | 10 => .int
  | 11 => .int
  | _ => .int
abbrev wsX90 : List Cond := u_ws RX9 TX9 13
theorem nmX9 : ∀ a, a < 13 → ∀ b, b < 13 → a ≠ b → (TX9 a).2.1 ≠ (TX9 b).2.1 := by decide +kernel
theorem tyX9_ok : ∀ k, k < 13 → parseFieldDescriptor (TX9 k).2.2.1 = some (tyX9 k) := by decide +kernel
abbrev cX9_init : ByteArray := prog_11_method_1_code
def yX9_init : MethodName := ⟨RX9, "<init>", "(LTeaTrolley$Ways;)V"⟩
abbrev cX9_along : ByteArray := prog_11_method_2_code
def yX9_along : MethodName := ⟨RX9, "along", "([III)V"⟩
abbrev cX9_arrive : ByteArray := prog_11_method_3_code
def yX9_arrive : MethodName := ⟨RX9, "arrive", "(II)V"⟩
abbrev cX9_cupsAt : ByteArray := prog_11_method_4_code
def yX9_cupsAt : MethodName := ⟨RX9, "cupsAt", "(I)I"⟩
abbrev cX9_heatAt : ByteArray := prog_11_method_5_code
def yX9_heatAt : MethodName := ⟨RX9, "heatAt", "(I)I"⟩
abbrev cX9_partsHot : ByteArray := prog_11_method_6_code
def yX9_partsHot : MethodName := ⟨RX9, "partsHot", "(II)I"⟩
abbrev cX9_hotParts : ByteArray := prog_11_method_7_code
def yX9_hotParts : MethodName := ⟨RX9, "hotParts", "(IIII)I"⟩
abbrev cX9_hotBehind : ByteArray := prog_11_method_8_code
def yX9_hotBehind : MethodName := ⟨RX9, "hotBehind", "(IIII)I"⟩
def RX10 : String := "TeaTrolley$Ways"
def TX10 : u_T := fun k => match k with
  | 0 => ("TeaTrolley$Ways", "office", "LTeaTrolley$Office;", true)
  | 1 => ("TeaTrolley$Ways", "now", "LTeaTrolley$State;", true)
  | 2 => ("TeaTrolley$Ways", "law", "LTeaTrolley$Law;", false)
  | _ => ("TeaTrolley$Ways", "letters", "[I", true)
def tyX10 : Nat → FieldType := fun k => match k with
  | 0 => .object "TeaTrolley$Office"
  | 1 => .object "TeaTrolley$State"
  | 2 => .object "TeaTrolley$Law"
  | _ => .array .int
abbrev wsX100 : List Cond := u_ws RX10 TX10 4
theorem nmX10 : ∀ a, a < 4 → ∀ b, b < 4 → a ≠ b → (TX10 a).2.1 ≠ (TX10 b).2.1 := by decide +kernel
theorem tyX10_ok : ∀ k, k < 4 → parseFieldDescriptor (TX10 k).2.2.1 = some (tyX10 k) := by decide +kernel
abbrev cX10_init : ByteArray := prog_12_method_1_code
def yX10_init : MethodName := ⟨RX10, "<init>", "(LTeaTrolley$Office;LTeaTrolley$State;)V"⟩
abbrev cX10_minutes : ByteArray := prog_12_method_2_code
def yX10_minutes : MethodName := ⟨RX10, "minutes", "(II)I"⟩
abbrev cX10_heatBehind : ByteArray := prog_12_method_3_code
def yX10_heatBehind : MethodName := ⟨RX10, "heatBehind", "(IIIIII)I"⟩
abbrev cX10_mostHeat : ByteArray := prog_12_method_4_code
def yX10_mostHeat : MethodName := ⟨RX10, "mostHeat", "(III)I"⟩
abbrev cX10_isHot : ByteArray := prog_12_method_5_code
def yX10_isHot : MethodName := ⟨RX10, "isHot", "(II)Z"⟩
abbrev cX10_poured : ByteArray := prog_12_method_6_code
def yX10_poured : MethodName := ⟨RX10, "poured", "(II)I"⟩
def RX11 : String := "TeaTrolley"
def TX11 : u_T := fun k => match k with
  | 0 => ("TeaTrolley", "tape", "LTeaTrolley$Tape;", true)
  | 1 => ("TeaTrolley", "officeText", "LTeaTrolley$OfficeText;", true)
  | 2 => ("TeaTrolley", "lawText", "LTeaTrolley$LawText;", true)
  | 3 => ("TeaTrolley", "roundDraft", "[I", true)
  | 4 => ("TeaTrolley", "office", "LTeaTrolley$Office;", true)
  | 5 => ("TeaTrolley", "now", "LTeaTrolley$State;", true)
  | 6 => ("TeaTrolley", "past", "LTeaTrolley$Past;", true)
  | 7 => ("TeaTrolley", "laws", "[LTeaTrolley$Law;", true)
  | 8 => ("TeaTrolley", "rounds", "[[I", true)
  | 9 => ("TeaTrolley", "ways", "LTeaTrolley$Ways;", true)
  | 10 => ("TeaTrolley", "walk", "LTeaTrolley$Walk;", true)
  | 11 => ("TeaTrolley", "search", "LTeaTrolley$Search;", true)
  | 12 => ("TeaTrolley", "sightings", "LTeaTrolley$Sightings;", true)
  | 13 => ("TeaTrolley", "lawCount", "I", false)
  | 14 => ("TeaTrolley", "lawHeld", "I", false)
  | 15 => ("TeaTrolley", "roundCount", "I", false)
  | 16 => ("TeaTrolley", "roundHeld", "I", false)
  | _ => ("TeaTrolley", "wobbling", "I", false)
def tyX11 : Nat → FieldType := fun k => match k with
  | 0 => .object "TeaTrolley$Tape"
  | 1 => .object "TeaTrolley$OfficeText"
  | 2 => .object "TeaTrolley$LawText"
  | 3 => .array .int
  | 4 => .object "TeaTrolley$Office"
  | 5 => .object "TeaTrolley$State"
  | 6 => .object "TeaTrolley$Past"
  | 7 => .array (.object "TeaTrolley$Law")
  | 8 => .array (.array .int)
  | 9 => .object "TeaTrolley$Ways"
  | 10 => .object "TeaTrolley$Walk"
  | 11 => .object "TeaTrolley$Search"
  | 12 => .object "TeaTrolley$Sightings"
  | 13 => .int
  | 14 => .int
  | 15 => .int
  | 16 => .int
  | _ => .int
abbrev wsX110 : List Cond := u_ws RX11 TX11 18
theorem nmX11 : ∀ a, a < 18 → ∀ b, b < 18 → a ≠ b → (TX11 a).2.1 ≠ (TX11 b).2.1 := by decide +kernel
theorem tyX11_ok : ∀ k, k < 18 → parseFieldDescriptor (TX11 k).2.2.1 = some (tyX11 k) := by decide +kernel
abbrev cX11_init : ByteArray := prog_1_method_1_code
def yX11_init : MethodName := ⟨RX11, "<init>", "()V"⟩
abbrev cX11_feed : ByteArray := prog_1_method_2_code
def yX11_feed : MethodName := ⟨RX11, "feed", "(IIIII)I"⟩
abbrev cX11_end : ByteArray := prog_1_method_3_code
def yX11_end : MethodName := ⟨RX11, "end", "(I)Z"⟩
abbrev cX11_fault : ByteArray := prog_1_method_4_code
def yX11_fault : MethodName := ⟨RX11, "fault", "(I)I"⟩
abbrev cX11_text : ByteArray := prog_1_method_5_code
def yX11_text : MethodName := ⟨RX11, "text", "(I)I"⟩
abbrev cX11_readRound : ByteArray := prog_1_method_6_code
def yX11_readRound : MethodName := ⟨RX11, "readRound", "()I"⟩
abbrev cX11_openOffice : ByteArray := prog_1_method_7_code
def yX11_openOffice : MethodName := ⟨RX11, "openOffice", "()I"⟩
abbrev cX11_addLaw : ByteArray := prog_1_method_8_code
def yX11_addLaw : MethodName := ⟨RX11, "addLaw", "()I"⟩
abbrev cX11_addRound : ByteArray := prog_1_method_9_code
def yX11_addRound : MethodName := ⟨RX11, "addRound", "()I"⟩
abbrev cX11_rule : ByteArray := prog_1_method_10_code
def yX11_rule : MethodName := ⟨RX11, "rule", "(I)I"⟩
abbrev cX11_room : ByteArray := prog_1_method_11_code
def yX11_room : MethodName := ⟨RX11, "room", "(II)I"⟩
abbrev cX11_law : ByteArray := prog_1_method_12_code
def yX11_law : MethodName := ⟨RX11, "law", "(I)Z"⟩
abbrev cX11_hold : ByteArray := prog_1_method_13_code
def yX11_hold : MethodName := ⟨RX11, "hold", "(I)Z"⟩
abbrev cX11_round : ByteArray := prog_1_method_14_code
def yX11_round : MethodName := ⟨RX11, "round", "(II)I"⟩
abbrev cX11_wobble : ByteArray := prog_1_method_15_code
def yX11_wobble : MethodName := ⟨RX11, "wobble", "(I)Z"⟩
abbrev cX11_steps : ByteArray := prog_1_method_16_code
def yX11_steps : MethodName := ⟨RX11, "steps", "(II)I"⟩
abbrev cX11_day : ByteArray := prog_1_method_17_code
def yX11_day : MethodName := ⟨RX11, "day", "()I"⟩
abbrev cX11_shut : ByteArray := prog_1_method_18_code
def yX11_shut : MethodName := ⟨RX11, "shut", "(I)Z"⟩
abbrev cX11_wheels : ByteArray := prog_1_method_19_code
def yX11_wheels : MethodName := ⟨RX11, "wheels", "(Z)I"⟩
abbrev cX11_move : ByteArray := prog_1_method_20_code
def yX11_move : MethodName := ⟨RX11, "move", "(III)I"⟩
abbrev cX11_fill : ByteArray := prog_1_method_21_code
def yX11_fill : MethodName := ⟨RX11, "fill", "(II)I"⟩
abbrev cX11_decades : ByteArray := prog_1_method_22_code
def yX11_decades : MethodName := ⟨RX11, "decades", "(IJ)I"⟩
abbrev cX11_stir : ByteArray := prog_1_method_23_code
def yX11_stir : MethodName := ⟨RX11, "stir", "(J)J"⟩
abbrev cX11_draw : ByteArray := prog_1_method_24_code
def yX11_draw : MethodName := ⟨RX11, "draw", "(JI)I"⟩
abbrev cX11_undo : ByteArray := prog_1_method_25_code
def yX11_undo : MethodName := ⟨RX11, "undo", "()I"⟩
abbrev cX11_log : ByteArray := prog_1_method_26_code
def yX11_log : MethodName := ⟨RX11, "log", "(II)I"⟩
abbrev cX11_image : ByteArray := prog_1_method_27_code
def yX11_image : MethodName := ⟨RX11, "image", "()I"⟩
abbrev cX11_back : ByteArray := prog_1_method_28_code
def yX11_back : MethodName := ⟨RX11, "back", "()I"⟩
abbrev cX11_beginAct : ByteArray := prog_1_method_29_code
def yX11_beginAct : MethodName := ⟨RX11, "beginAct", "()V"⟩
abbrev cX11_passDay : ByteArray := prog_1_method_30_code
def yX11_passDay : MethodName := ⟨RX11, "passDay", "()V"⟩
abbrev cX11_comes : ByteArray := prog_1_method_31_code
def yX11_comes : MethodName := ⟨RX11, "comes", "(II)I"⟩
abbrev cX11_shares : ByteArray := prog_1_method_32_code
def yX11_shares : MethodName := ⟨RX11, "shares", "(II)I"⟩
abbrev cX11_crumbs : ByteArray := prog_1_method_33_code
def yX11_crumbs : MethodName := ⟨RX11, "crumbs", "(II)I"⟩
abbrev cX11_canHaveTwo : ByteArray := prog_1_method_34_code
def yX11_canHaveTwo : MethodName := ⟨RX11, "canHaveTwo", "(I)Z"⟩
abbrev cX11_cupsIn : ByteArray := prog_1_method_35_code
def yX11_cupsIn : MethodName := ⟨RX11, "cupsIn", "(I)I"⟩
abbrev cX11_game : ByteArray := prog_1_method_36_code
def yX11_game : MethodName := ⟨RX11, "game", "(IIIII)I"⟩
abbrev cX11_rests : ByteArray := prog_1_method_37_code
def yX11_rests : MethodName := ⟨RX11, "rests", "(III)I"⟩
abbrev cX11_canPlay : ByteArray := prog_1_method_38_code
def yX11_canPlay : MethodName := ⟨RX11, "canPlay", "(II)Z"⟩
abbrev cX11_gain : ByteArray := prog_1_method_39_code
def yX11_gain : MethodName := ⟨RX11, "gain", "(III)I"⟩
abbrev cX11_meet : ByteArray := prog_1_method_40_code
def yX11_meet : MethodName := ⟨RX11, "meet", "(II)I"⟩
abbrev cX11_thaw : ByteArray := prog_1_method_41_code
def yX11_thaw : MethodName := ⟨RX11, "thaw", "(I)I"⟩
abbrev cX11_odds : ByteArray := prog_1_method_42_code
def yX11_odds : MethodName := ⟨RX11, "odds", "(II)I"⟩
abbrev cX11_season : ByteArray := prog_1_method_43_code
def yX11_season : MethodName := ⟨RX11, "season", "(I)I"⟩
abbrev cX11_all : ByteArray := prog_1_method_44_code
def yX11_all : MethodName := ⟨RX11, "all", "(I)I"⟩
abbrev cX11_coldest : ByteArray := prog_1_method_45_code
def yX11_coldest : MethodName := ⟨RX11, "coldest", "()I"⟩
abbrev cX11_ice : ByteArray := prog_1_method_46_code
def yX11_ice : MethodName := ⟨RX11, "ice", "()I"⟩
abbrev cX11_best : ByteArray := prog_1_method_47_code
def yX11_best : MethodName := ⟨RX11, "best", "(I)I"⟩
abbrev cX11_shortest : ByteArray := prog_1_method_48_code
def yX11_shortest : MethodName := ⟨RX11, "shortest", "(II)I"⟩
abbrev cX11_seat : ByteArray := prog_1_method_49_code
def yX11_seat : MethodName := ⟨RX11, "seat", "(I)I"⟩
abbrev cX11_hotIfMoved : ByteArray := prog_1_method_50_code
def yX11_hotIfMoved : MethodName := ⟨RX11, "hotIfMoved", "(II)I"⟩
abbrev cX11_happy : ByteArray := prog_1_method_51_code
def yX11_happy : MethodName := ⟨RX11, "happy", "(I)I"⟩
abbrev cX11_seen : ByteArray := prog_1_method_52_code
def yX11_seen : MethodName := ⟨RX11, "seen", "(IIZ)I"⟩
abbrev cX11_fits : ByteArray := prog_1_method_53_code
def yX11_fits : MethodName := ⟨RX11, "fits", "(I)I"⟩
abbrev cX11_second : ByteArray := prog_1_method_54_code
def yX11_second : MethodName := ⟨RX11, "second", "()I"⟩
abbrev cX11_ask : ByteArray := prog_1_method_55_code
def yX11_ask : MethodName := ⟨RX11, "ask", "(I)I"⟩
abbrev cX11_floor : ByteArray := prog_1_method_56_code
def yX11_floor : MethodName := ⟨RX11, "floor", "(I)I"⟩
abbrev cX11_nearest : ByteArray := prog_1_method_57_code
def yX11_nearest : MethodName := ⟨RX11, "nearest", "(I)I"⟩
abbrev cX11_count : ByteArray := prog_1_method_58_code
def yX11_count : MethodName := ⟨RX11, "count", "(I)I"⟩
abbrev cX11_noOffice : ByteArray := prog_1_method_59_code
def yX11_noOffice : MethodName := ⟨RX11, "noOffice", "()Z"⟩
abbrev cX11_isRoom : ByteArray := prog_1_method_60_code
def yX11_isRoom : MethodName := ⟨RX11, "isRoom", "(I)Z"⟩
abbrev cX11_isRound : ByteArray := prog_1_method_61_code
def yX11_isRound : MethodName := ⟨RX11, "isRound", "(I)Z"⟩
abbrev cX11_isBit : ByteArray := prog_1_method_62_code
def yX11_isBit : MethodName := ⟨RX11, "isBit", "(I)Z"⟩
abbrev cX11_isMinute : ByteArray := prog_1_method_63_code
def yX11_isMinute : MethodName := ⟨RX11, "isMinute", "(I)Z"⟩
abbrev cX11_has : ByteArray := prog_1_method_64_code
def yX11_has : MethodName := ⟨RX11, "has", "(II)Z"⟩
abbrev cX11_within : ByteArray := prog_1_method_65_code
def yX11_within : MethodName := ⟨RX11, "within", "(III)I"⟩
abbrev cX11_heldRound : ByteArray := prog_1_method_66_code
def yX11_heldRound : MethodName := ⟨RX11, "heldRound", "()[I"⟩
abbrev cX11_goRound : ByteArray := prog_1_method_67_code
def yX11_goRound : MethodName := ⟨RX11, "goRound", "()V"⟩
abbrev cX11_comesTo : ByteArray := prog_1_method_68_code
def yX11_comesTo : MethodName := ⟨RX11, "comesTo", "(I)Z"⟩
abbrev cX11_logLength : ByteArray := prog_1_method_69_code
def yX11_logLength : MethodName := ⟨RX11, "logLength", "()I"⟩
def RX12 : String := "TeaTrolleyModel"
def TX12 : u_T := fun k => match k with
  | 0 => ("TeaTrolleyModel", "thrown", "I", false)
  | 1 => ("TeaTrolleyModel", "tape", "[B", true)
  | 2 => ("TeaTrolleyModel", "texts", "[B", true)
  | 3 => ("TeaTrolleyModel", "textLong", "[I", true)
  | 4 => ("TeaTrolleyModel", "letters", "[I", true)
  | 5 => ("TeaTrolleyModel", "text", "[B", false)
  | 6 => ("TeaTrolleyModel", "length", "I", false)
  | 7 => ("TeaTrolleyModel", "lawMany", "I", false)
  | 8 => ("TeaTrolleyModel", "begins", "I", false)
  | 9 => ("TeaTrolleyModel", "ends", "I", false)
  | 10 => ("TeaTrolleyModel", "at", "I", false)
  | 11 => ("TeaTrolleyModel", "fault", "I", false)
  | 12 => ("TeaTrolleyModel", "deep", "I", false)
  | 13 => ("TeaTrolleyModel", "label", "I", false)
  | 14 => ("TeaTrolleyModel", "found", "I", false)
  | 15 => ("TeaTrolleyModel", "labels", "Ljava/lang/String;", true)
  | 16 => ("TeaTrolleyModel", "allowed", "Ljava/lang/String;", true)
  | 17 => ("TeaTrolleyModel", "hasFound", "Z", false)
  | 18 => ("TeaTrolleyModel", "rule", "[I", true)
  | 19 => ("TeaTrolleyModel", "ruleRead", "[I", true)
  | 20 => ("TeaTrolleyModel", "told", "[I", true)
  | 21 => ("TeaTrolleyModel", "toldRead", "[I", true)
  | 22 => ("TeaTrolleyModel", "rounds", "[I", true)
  | 23 => ("TeaTrolleyModel", "roundLong", "[I", true)
  | 24 => ("TeaTrolleyModel", "rooms", "I", false)
  | 25 => ("TeaTrolleyModel", "roomsRead", "I", false)
  | 26 => ("TeaTrolleyModel", "roundMany", "I", false)
  | 27 => ("TeaTrolleyModel", "hasRules", "Z", false)
  | 28 => ("TeaTrolleyModel", "now", "[I", true)
  | 29 => ("TeaTrolleyModel", "law", "I", false)
  | 30 => ("TeaTrolleyModel", "holds", "I", false)
  | 31 => ("TeaTrolleyModel", "wobbly", "I", false)
  | 32 => ("TeaTrolleyModel", "minutesAt", "[I", true)
  | 33 => ("TeaTrolleyModel", "heatAt", "[I", true)
  | 34 => ("TeaTrolleyModel", "pouredAt", "[I", true)
  | 35 => ("TeaTrolleyModel", "spot", "I", false)
  | 36 => ("TeaTrolleyModel", "minutes", "I", false)
  | 37 => ("TeaTrolleyModel", "heat", "I", false)
  | 38 => ("TeaTrolleyModel", "cups", "I", false)
  | 39 => ("TeaTrolleyModel", "came", "I", false)
  | 40 => ("TeaTrolleyModel", "hot", "I", false)
  | 41 => ("TeaTrolleyModel", "tea", "I", false)
  | 42 => ("TeaTrolleyModel", "lost", "I", false)
  | 43 => ("TeaTrolleyModel", "memoKey", "[J", true)
  | 44 => ("TeaTrolleyModel", "memoWorth", "[I", true)
  | 45 => ("TeaTrolleyModel", "undoRow", "[I", true)
  | 46 => ("TeaTrolleyModel", "acts", "I", false)
  | 47 => ("TeaTrolleyModel", "x", "J", false)
  | 48 => ("TeaTrolleyModel", "bestRow", "I", false)
  | 49 => ("TeaTrolleyModel", "bestWorth", "I", false)
  | 50 => ("TeaTrolleyModel", "sightRoom", "[I", true)
  | 51 => ("TeaTrolleyModel", "sightTime", "[I", true)
  | 52 => ("TeaTrolleyModel", "arrived", "[I", true)
  | 53 => ("TeaTrolleyModel", "leans", "[I", true)
  | 54 => ("TeaTrolleyModel", "sightHad", "[Z", true)
  | 55 => ("TeaTrolleyModel", "sights", "I", false)
  | 56 => ("TeaTrolleyModel", "fitting", "I", false)
  | 57 => ("TeaTrolleyModel", "wanted", "I", false)
  | 58 => ("TeaTrolleyModel", "fitRow", "I", false)
  | 59 => ("TeaTrolleyModel", "asked", "I", false)
  | 60 => ("TeaTrolleyModel", "imageRow", "[I", true)
  | _ => ("TeaTrolleyModel", "hasImage", "Z", false)
def tyX12 : Nat → FieldType := fun k => match k with
  | 0 => .int
  | 1 => .array .byte
  | 2 => .array .byte
  | 3 => .array .int
  | 4 => .array .int
  | 5 => .array .byte
  | 6 => .int
  | 7 => .int
  | 8 => .int
  | 9 => .int
  | 10 => .int
  | 11 => .int
  | 12 => .int
  | 13 => .int
  | 14 => .int
  | 15 => .object "java/lang/String"
  | 16 => .object "java/lang/String"
  | 17 => .boolean
  | 18 => .array .int
  | 19 => .array .int
  | 20 => .array .int
  | 21 => .array .int
  | 22 => .array .int
  | 23 => .array .int
  | 24 => .int
  | 25 => .int
  | 26 => .int
  | 27 => .boolean
  | 28 => .array .int
  | 29 => .int
  | 30 => .int
  | 31 => .int
  | 32 => .array .int
  | 33 => .array .int
  | 34 => .array .int
  | 35 => .int
  | 36 => .int
  | 37 => .int
  | 38 => .int
  | 39 => .int
  | 40 => .int
  | 41 => .int
  | 42 => .int
  | 43 => .array .long
  | 44 => .array .int
  | 45 => .array .int
  | 46 => .int
  | 47 => .long
  | 48 => .int
  | 49 => .int
  | 50 => .array .int
  | 51 => .array .int
  | 52 => .array .int
  | 53 => .array .int
  | 54 => .array .boolean
  | 55 => .int
  | 56 => .int
  | 57 => .int
  | 58 => .int
  | 59 => .int
  | 60 => .array .int
  | _ => .boolean
abbrev wsX120 : List Cond := u_ws RX12 TX12 62
theorem nmX12 : ∀ a, a < 62 → ∀ b, b < 62 → a ≠ b → (TX12 a).2.1 ≠ (TX12 b).2.1 := by decide +kernel
theorem tyX12_ok : ∀ k, k < 62 → parseFieldDescriptor (TX12 k).2.2.1 = some (tyX12 k) := by decide +kernel
abbrev cX12_init : ByteArray := prog_14_method_1_code
def yX12_init : MethodName := ⟨RX12, "<init>", "()V"⟩
abbrev cX12_thrown : ByteArray := prog_14_method_2_code
def yX12_thrown : MethodName := ⟨RX12, "thrown", "()I"⟩
abbrev cX12_isIn : ByteArray := prog_14_method_3_code
def yX12_isIn : MethodName := ⟨RX12, "isIn", "(JJJ)Z"⟩
abbrev cX12_has : ByteArray := prog_14_method_4_code
def yX12_has : MethodName := ⟨RX12, "has", "(II)Z"⟩
abbrev cX12_isAmong : ByteArray := prog_14_method_5_code
def yX12_isAmong : MethodName := ⟨RX12, "isAmong", "(Ljava/lang/String;I)Z"⟩
abbrev cX12_bytesIn : ByteArray := prog_14_method_6_code
def yX12_bytesIn : MethodName := ⟨RX12, "bytesIn", "(I)I"⟩
abbrev cX12_put : ByteArray := prog_14_method_7_code
def yX12_put : MethodName := ⟨RX12, "put", "(I)V"⟩
abbrev cX12_feed : ByteArray := prog_14_method_8_code
def yX12_feed : MethodName := ⟨RX12, "feed", "(IIIII)I"⟩
abbrev cX12_end : ByteArray := prog_14_method_9_code
def yX12_end : MethodName := ⟨RX12, "end", "(I)Z"⟩
abbrev cX12_look : ByteArray := prog_14_method_10_code
def yX12_look : MethodName := ⟨RX12, "look", "()I"⟩
abbrev cX12_fails : ByteArray := prog_14_method_11_code
def yX12_fails : MethodName := ⟨RX12, "fails", "()Z"⟩
abbrev cX12_goesIn : ByteArray := prog_14_method_12_code
def yX12_goesIn : MethodName := ⟨RX12, "goesIn", "()Z"⟩
abbrev cX12_takes : ByteArray := prog_14_method_13_code
def yX12_takes : MethodName := ⟨RX12, "takes", "(I)Z"⟩
abbrev cX12_isDigit : ByteArray := prog_14_method_14_code
def yX12_isDigit : MethodName := ⟨RX12, "isDigit", "()Z"⟩
abbrev cX12_within : ByteArray := prog_14_method_15_code
def yX12_within : MethodName := ⟨RX12, "within", "(J)I"⟩
abbrev cX12_atom : ByteArray := prog_14_method_16_code
def yX12_atom : MethodName := ⟨RX12, "atom", "()I"⟩
abbrev cX12_term : ByteArray := prog_14_method_17_code
def yX12_term : MethodName := ⟨RX12, "term", "()I"⟩
abbrev cX12_sum : ByteArray := prog_14_method_18_code
def yX12_sum : MethodName := ⟨RX12, "sum", "()I"⟩
abbrev cX12_isSign : ByteArray := prog_14_method_19_code
def yX12_isSign : MethodName := ⟨RX12, "isSign", "(I)Z"⟩
abbrev cX12_compares : ByteArray := prog_14_method_20_code
def yX12_compares : MethodName := ⟨RX12, "compares", "(ZI)Z"⟩
abbrev cX12_unit : ByteArray := prog_14_method_21_code
def yX12_unit : MethodName := ⟨RX12, "unit", "()Z"⟩
abbrev cX12_part : ByteArray := prog_14_method_22_code
def yX12_part : MethodName := ⟨RX12, "part", "(ZI)Z"⟩
abbrev cX12_condition : ByteArray := prog_14_method_23_code
def yX12_condition : MethodName := ⟨RX12, "condition", "(ZI)Z"⟩
abbrev cX12_clause : ByteArray := prog_14_method_24_code
def yX12_clause : MethodName := ⟨RX12, "clause", "()V"⟩
abbrev cX12_starts : ByteArray := prog_14_method_25_code
def yX12_starts : MethodName := ⟨RX12, "starts", "([BII)V"⟩
abbrev cX12_goThrough : ByteArray := prog_14_method_26_code
def yX12_goThrough : MethodName := ⟨RX12, "goThrough", "([BII)V"⟩
abbrev cX12_here : ByteArray := prog_14_method_27_code
def yX12_here : MethodName := ⟨RX12, "here", "()I"⟩
abbrev cX12_spotOf : ByteArray := prog_14_method_28_code
def yX12_spotOf : MethodName := ⟨RX12, "spotOf", "(Ljava/lang/String;I)I"⟩
abbrev cX12_number : ByteArray := prog_14_method_29_code
def yX12_number : MethodName := ⟨RX12, "number", "(II)I"⟩
abbrev cX12_mostOf : ByteArray := prog_14_method_30_code
def yX12_mostOf : MethodName := ⟨RX12, "mostOf", "(II)I"⟩
abbrev cX12_leastOf : ByteArray := prog_14_method_31_code
def yX12_leastOf : MethodName := ⟨RX12, "leastOf", "(II)I"⟩
abbrev cX12_usual : ByteArray := prog_14_method_32_code
def yX12_usual : MethodName := ⟨RX12, "usual", "(II)I"⟩
abbrev cX12_readItems : ByteArray := prog_14_method_33_code
def yX12_readItems : MethodName := ⟨RX12, "readItems", "(I[IILjava/lang/String;)V"⟩
abbrev cX12_readClause : ByteArray := prog_14_method_34_code
def yX12_readClause : MethodName := ⟨RX12, "readClause", "()V"⟩
abbrev cX12_isWhole : ByteArray := prog_14_method_35_code
def yX12_isWhole : MethodName := ⟨RX12, "isWhole", "()Z"⟩
abbrev cX12_readOffice : ByteArray := prog_14_method_36_code
def yX12_readOffice : MethodName := ⟨RX12, "readOffice", "()V"⟩
abbrev cX12_readRound : ByteArray := prog_14_method_37_code
def yX12_readRound : MethodName := ⟨RX12, "readRound", "()V"⟩
abbrev cX12_fault : ByteArray := prog_14_method_38_code
def yX12_fault : MethodName := ⟨RX12, "fault", "(I)I"⟩
abbrev cX12_text : ByteArray := prog_14_method_39_code
def yX12_text : MethodName := ⟨RX12, "text", "(I)I"⟩
abbrev cX12_isRoom : ByteArray := prog_14_method_40_code
def yX12_isRoom : MethodName := ⟨RX12, "isRoom", "(I)Z"⟩
abbrev cX12_of : ByteArray := prog_14_method_41_code
def yX12_of : MethodName := ⟨RX12, "of", "(II)I"⟩
abbrev cX12_stepsTo : ByteArray := prog_14_method_42_code
def yX12_stepsTo : MethodName := ⟨RX12, "stepsTo", "(II)I"⟩
abbrev cX12_setsOut : ByteArray := prog_14_method_43_code
def yX12_setsOut : MethodName := ⟨RX12, "setsOut", "()V"⟩
abbrev cX12_cools : ByteArray := prog_14_method_44_code
def yX12_cools : MethodName := ⟨RX12, "cools", "(IIIIII)I"⟩
abbrev cX12_worthNow : ByteArray := prog_14_method_45_code
def yX12_worthNow : MethodName := ⟨RX12, "worthNow", "()I"⟩
abbrev cX12_comesTo : ByteArray := prog_14_method_46_code
def yX12_comesTo : MethodName := ⟨RX12, "comesTo", "(I)V"⟩
abbrev cX12_goRound : ByteArray := prog_14_method_47_code
def yX12_goRound : MethodName := ⟨RX12, "goRound", "(IZ)V"⟩
abbrev cX12_goNow : ByteArray := prog_14_method_48_code
def yX12_goNow : MethodName := ⟨RX12, "goNow", "()V"⟩
abbrev cX12_goDay : ByteArray := prog_14_method_49_code
def yX12_goDay : MethodName := ⟨RX12, "goDay", "()V"⟩
abbrev cX12_rule : ByteArray := prog_14_method_50_code
def yX12_rule : MethodName := ⟨RX12, "rule", "(I)I"⟩
abbrev cX12_room : ByteArray := prog_14_method_51_code
def yX12_room : MethodName := ⟨RX12, "room", "(II)I"⟩
abbrev cX12_law : ByteArray := prog_14_method_52_code
def yX12_law : MethodName := ⟨RX12, "law", "(I)Z"⟩
abbrev cX12_isRound : ByteArray := prog_14_method_53_code
def yX12_isRound : MethodName := ⟨RX12, "isRound", "(I)Z"⟩
abbrev cX12_hold : ByteArray := prog_14_method_54_code
def yX12_hold : MethodName := ⟨RX12, "hold", "(I)Z"⟩
abbrev cX12_round : ByteArray := prog_14_method_55_code
def yX12_round : MethodName := ⟨RX12, "round", "(II)I"⟩
abbrev cX12_wobble : ByteArray := prog_14_method_56_code
def yX12_wobble : MethodName := ⟨RX12, "wobble", "(I)Z"⟩
abbrev cX12_steps : ByteArray := prog_14_method_57_code
def yX12_steps : MethodName := ⟨RX12, "steps", "(II)I"⟩
abbrev cX12_remember : ByteArray := prog_14_method_58_code
def yX12_remember : MethodName := ⟨RX12, "remember", "()V"⟩
abbrev cX12_day : ByteArray := prog_14_method_59_code
def yX12_day : MethodName := ⟨RX12, "day", "()I"⟩
abbrev cX12_shut : ByteArray := prog_14_method_60_code
def yX12_shut : MethodName := ⟨RX12, "shut", "(I)Z"⟩
abbrev cX12_wheels : ByteArray := prog_14_method_61_code
def yX12_wheels : MethodName := ⟨RX12, "wheels", "(Z)I"⟩
abbrev cX12_move : ByteArray := prog_14_method_62_code
def yX12_move : MethodName := ⟨RX12, "move", "(III)I"⟩
abbrev cX12_fill : ByteArray := prog_14_method_63_code
def yX12_fill : MethodName := ⟨RX12, "fill", "(II)I"⟩
abbrev cX12_draw : ByteArray := prog_14_method_64_code
def yX12_draw : MethodName := ⟨RX12, "draw", "(I)I"⟩
abbrev cX12_decades : ByteArray := prog_14_method_65_code
def yX12_decades : MethodName := ⟨RX12, "decades", "(IJ)I"⟩
abbrev cX12_undo : ByteArray := prog_14_method_66_code
def yX12_undo : MethodName := ⟨RX12, "undo", "()I"⟩
abbrev cX12_log : ByteArray := prog_14_method_67_code
def yX12_log : MethodName := ⟨RX12, "log", "(II)I"⟩
abbrev cX12_comes : ByteArray := prog_14_method_68_code
def yX12_comes : MethodName := ⟨RX12, "comes", "(II)I"⟩
abbrev cX12_again : ByteArray := prog_14_method_69_code
def yX12_again : MethodName := ⟨RX12, "again", "(IIIIII)V"⟩
abbrev cX12_goBest : ByteArray := prog_14_method_70_code
def yX12_goBest : MethodName := ⟨RX12, "goBest", "(II)V"⟩
abbrev cX12_best : ByteArray := prog_14_method_71_code
def yX12_best : MethodName := ⟨RX12, "best", "(I)I"⟩
abbrev cX12_goShort : ByteArray := prog_14_method_72_code
def yX12_goShort : MethodName := ⟨RX12, "goShort", "(II)V"⟩
abbrev cX12_shortest : ByteArray := prog_14_method_73_code
def yX12_shortest : MethodName := ⟨RX12, "shortest", "(II)I"⟩
abbrev cX12_seat : ByteArray := prog_14_method_74_code
def yX12_seat : MethodName := ⟨RX12, "seat", "(I)I"⟩
abbrev cX12_seen : ByteArray := prog_14_method_75_code
def yX12_seen : MethodName := ⟨RX12, "seen", "(IIZ)I"⟩
abbrev cX12_isSeen : ByteArray := prog_14_method_76_code
def yX12_isSeen : MethodName := ⟨RX12, "isSeen", "(II)Z"⟩
abbrev cX12_goFits : ByteArray := prog_14_method_77_code
def yX12_goFits : MethodName := ⟨RX12, "goFits", "(IIII)V"⟩
abbrev cX12_layFits : ByteArray := prog_14_method_78_code
def yX12_layFits : MethodName := ⟨RX12, "layFits", "(II)V"⟩
abbrev cX12_fits : ByteArray := prog_14_method_79_code
def yX12_fits : MethodName := ⟨RX12, "fits", "(I)I"⟩
abbrev cX12_second : ByteArray := prog_14_method_80_code
def yX12_second : MethodName := ⟨RX12, "second", "()I"⟩
abbrev cX12_ask : ByteArray := prog_14_method_81_code
def yX12_ask : MethodName := ⟨RX12, "ask", "(I)I"⟩
abbrev cX12_crumbs : ByteArray := prog_14_method_82_code
def yX12_crumbs : MethodName := ⟨RX12, "crumbs", "(II)I"⟩
abbrev cX12_shares : ByteArray := prog_14_method_83_code
def yX12_shares : MethodName := ⟨RX12, "shares", "(II)I"⟩
abbrev cX12_warmth : ByteArray := prog_14_method_84_code
def yX12_warmth : MethodName := ⟨RX12, "warmth", "(I)I"⟩
abbrev cX12_gameOf : ByteArray := prog_14_method_85_code
def yX12_gameOf : MethodName := ⟨RX12, "gameOf", "(III)I"⟩
abbrev cX12_isGame : ByteArray := prog_14_method_86_code
def yX12_isGame : MethodName := ⟨RX12, "isGame", "(II)Z"⟩
abbrev cX12_game : ByteArray := prog_14_method_87_code
def yX12_game : MethodName := ⟨RX12, "game", "(IIIII)I"⟩
abbrev cX12_rests : ByteArray := prog_14_method_88_code
def yX12_rests : MethodName := ⟨RX12, "rests", "(III)I"⟩
abbrev cX12_meet : ByteArray := prog_14_method_89_code
def yX12_meet : MethodName := ⟨RX12, "meet", "(II)I"⟩
abbrev cX12_thaw : ByteArray := prog_14_method_90_code
def yX12_thaw : MethodName := ⟨RX12, "thaw", "(I)I"⟩
abbrev cX12_oddsFrom : ByteArray := prog_14_method_91_code
def yX12_oddsFrom : MethodName := ⟨RX12, "oddsFrom", "(IIIIIIII)I"⟩
abbrev cX12_odds : ByteArray := prog_14_method_92_code
def yX12_odds : MethodName := ⟨RX12, "odds", "(II)I"⟩
abbrev cX12_season : ByteArray := prog_14_method_93_code
def yX12_season : MethodName := ⟨RX12, "season", "(I)I"⟩
abbrev cX12_workers : ByteArray := prog_14_method_94_code
def yX12_workers : MethodName := ⟨RX12, "workers", "()I"⟩
abbrev cX12_all : ByteArray := prog_14_method_95_code
def yX12_all : MethodName := ⟨RX12, "all", "(I)I"⟩
abbrev cX12_floor : ByteArray := prog_14_method_96_code
def yX12_floor : MethodName := ⟨RX12, "floor", "(I)I"⟩
abbrev cX12_nearest : ByteArray := prog_14_method_97_code
def yX12_nearest : MethodName := ⟨RX12, "nearest", "(I)I"⟩
abbrev cX12_happy : ByteArray := prog_14_method_98_code
def yX12_happy : MethodName := ⟨RX12, "happy", "(I)I"⟩
abbrev cX12_image : ByteArray := prog_14_method_99_code
def yX12_image : MethodName := ⟨RX12, "image", "()I"⟩
abbrev cX12_back : ByteArray := prog_14_method_100_code
def yX12_back : MethodName := ⟨RX12, "back", "()I"⟩
abbrev cX12_count : ByteArray := prog_14_method_101_code
def yX12_count : MethodName := ⟨RX12, "count", "(I)I"⟩
def RJx145de : String := "java/io/Serializable"
def TJx145de : u_T := fun k => match k with
  | _ => ("", "", "", false)
def tyJx145de : Nat → FieldType := fun k => match k with
  | _ => .int
abbrev wsJx145de0 : List Cond := u_ws RJx145de TJx145de 0
theorem nmJx145de : ∀ a, a < 0 → ∀ b, b < 0 → a ≠ b → (TJx145de a).2.1 ≠ (TJx145de b).2.1 := by decide +kernel
theorem tyJx145de_ok : ∀ k, k < 0 → parseFieldDescriptor (TJx145de k).2.2.1 = some (tyJx145de k) := by decide +kernel
def RJx9f9b0 : String := "java/lang/CharSequence"
def TJx9f9b0 : u_T := fun k => match k with
  | _ => ("", "", "", false)
def tyJx9f9b0 : Nat → FieldType := fun k => match k with
  | _ => .int
abbrev wsJx9f9b00 : List Cond := u_ws RJx9f9b0 TJx9f9b0 0
theorem nmJx9f9b0 : ∀ a, a < 0 → ∀ b, b < 0 → a ≠ b → (TJx9f9b0 a).2.1 ≠ (TJx9f9b0 b).2.1 := by decide +kernel
theorem tyJx9f9b0_ok : ∀ k, k < 0 → parseFieldDescriptor (TJx9f9b0 k).2.2.1 = some (tyJx9f9b0 k) := by decide +kernel
def RJ11 : String := "java/lang/Character"
def TJ11 : u_T := fun k => match k with
  | _ => ("", "", "", false)
def tyJ11 : Nat → FieldType := fun k => match k with
  | _ => .int
abbrev wsJ110 : List Cond := u_ws RJ11 TJ11 0
theorem nmJ11 : ∀ a, a < 0 → ∀ b, b < 0 → a ≠ b → (TJ11 a).2.1 ≠ (TJ11 b).2.1 := by decide +kernel
theorem tyJ11_ok : ∀ k, k < 0 → parseFieldDescriptor (TJ11 k).2.2.1 = some (tyJ11 k) := by decide +kernel
abbrev cJ11_isValidCodePoint_9a6ad : ByteArray := prog_17_method_11_code
def yJ11_isValidCodePoint_9a6ad : MethodName := ⟨RJ11, "isValidCodePoint", "(I)Z"⟩
abbrev cJ11_highSurrogate_5068e : ByteArray := prog_17_method_28_code
def yJ11_highSurrogate_5068e : MethodName := ⟨RJ11, "highSurrogate", "(I)C"⟩
abbrev cJ11_lowSurrogate_5068e : ByteArray := prog_17_method_29_code
def yJ11_lowSurrogate_5068e : MethodName := ⟨RJ11, "lowSurrogate", "(I)C"⟩
def RJxb160c : String := "java/lang/Comparable"
def TJxb160c : u_T := fun k => match k with
  | _ => ("", "", "", false)
def tyJxb160c : Nat → FieldType := fun k => match k with
  | _ => .int
abbrev wsJxb160c0 : List Cond := u_ws RJxb160c TJxb160c 0
theorem nmJxb160c : ∀ a, a < 0 → ∀ b, b < 0 → a ≠ b → (TJxb160c a).2.1 ≠ (TJxb160c b).2.1 := by decide +kernel
theorem tyJxb160c_ok : ∀ k, k < 0 → parseFieldDescriptor (TJxb160c k).2.2.1 = some (tyJxb160c k) := by decide +kernel
def RJ6 : String := "java/lang/Integer"
def TJ6 : u_T := fun k => match k with
  | _ => ("", "", "", false)
def tyJ6 : Nat → FieldType := fun k => match k with
  | _ => .int
abbrev wsJ60 : List Cond := u_ws RJ6 TJ6 0
theorem nmJ6 : ∀ a, a < 0 → ∀ b, b < 0 → a ≠ b → (TJ6 a).2.1 ≠ (TJ6 b).2.1 := by decide +kernel
theorem tyJ6_ok : ∀ k, k < 0 → parseFieldDescriptor (TJ6 k).2.2.1 = some (tyJ6 k) := by decide +kernel
abbrev cJ6_bitCount_0f7a4 : ByteArray := prog_20_method_49_code
def yJ6_bitCount_0f7a4 : MethodName := ⟨RJ6, "bitCount", "(I)I"⟩
def RJ9 : String := "java/lang/Math"
def TJ9 : u_T := fun k => match k with
  | _ => ("", "", "", false)
def tyJ9 : Nat → FieldType := fun k => match k with
  | _ => .int
abbrev wsJ90 : List Cond := u_ws RJ9 TJ9 0
theorem nmJ9 : ∀ a, a < 0 → ∀ b, b < 0 → a ≠ b → (TJ9 a).2.1 ≠ (TJ9 b).2.1 := by decide +kernel
theorem tyJ9_ok : ∀ k, k < 0 → parseFieldDescriptor (TJ9 k).2.2.1 = some (tyJ9 k) := by decide +kernel
abbrev cJ9_floorMod_7cf53 : ByteArray := prog_21_method_50_code
def yJ9_floorMod_7cf53 : MethodName := ⟨RJ9, "floorMod", "(II)I"⟩
abbrev cJ9_abs_0f7a4 : ByteArray := prog_21_method_59_code
def yJ9_abs_0f7a4 : MethodName := ⟨RJ9, "abs", "(I)I"⟩
abbrev cJ9_max_7cf53 : ByteArray := prog_21_method_65_code
def yJ9_max_7cf53 : MethodName := ⟨RJ9, "max", "(II)I"⟩
abbrev cJ9_max_f86c9 : ByteArray := prog_21_method_66_code
def yJ9_max_f86c9 : MethodName := ⟨RJ9, "max", "(JJ)J"⟩
abbrev cJ9_min_7cf53 : ByteArray := prog_21_method_69_code
def yJ9_min_7cf53 : MethodName := ⟨RJ9, "min", "(II)I"⟩
abbrev cJ9_min_f86c9 : ByteArray := prog_21_method_70_code
def yJ9_min_f86c9 : MethodName := ⟨RJ9, "min", "(JJ)J"⟩
def RJ0 : String := "java/lang/String"
def TJ0 : u_T := fun k => match k with
  | _ => ("", "", "", false)
def tyJ0 : Nat → FieldType := fun k => match k with
  | _ => .int
abbrev wsJ00 : List Cond := u_ws RJ0 TJ0 0
theorem nmJ0 : ∀ a, a < 0 → ∀ b, b < 0 → a ≠ b → (TJ0 a).2.1 ≠ (TJ0 b).2.1 := by decide +kernel
theorem tyJ0_ok : ∀ k, k < 0 → parseFieldDescriptor (TJ0 k).2.2.1 = some (tyJ0 k) := by decide +kernel
abbrev cJ0_length_8abf5 : ByteArray := prog_23_method_54_code
def yJ0_length_8abf5 : MethodName := ⟨RJ0, "length", "()I"⟩
abbrev cJ0_charAt_5068e : ByteArray := prog_23_method_56_code
def yJ0_charAt_5068e : MethodName := ⟨RJ0, "charAt", "(I)C"⟩
abbrev cJ0_indexOf_0f7a4 : ByteArray := prog_23_method_79_code
def yJ0_indexOf_0f7a4 : MethodName := ⟨RJ0, "indexOf", "(I)I"⟩
abbrev cJ0_indexOf_7cf53 : ByteArray := prog_23_method_80_code
def yJ0_indexOf_7cf53 : MethodName := ⟨RJ0, "indexOf", "(II)I"⟩
abbrev cJ0_coder_7d493 : ByteArray := prog_23_method_152_code
def yJ0_coder_7d493 : MethodName := ⟨RJ0, "coder", "()B"⟩
abbrev cJ0_isLatin1_aae02 : ByteArray := prog_23_method_154_code
def yJ0_isLatin1_aae02 : MethodName := ⟨RJ0, "isLatin1", "()Z"⟩
abbrev cJ0_checkIndex_df160 : ByteArray := prog_23_method_155_code
def yJ0_checkIndex_df160 : MethodName := ⟨RJ0, "checkIndex", "(II)V"⟩
abbrev cJ0_checkBoundsBeginEnd_23922 : ByteArray := prog_23_method_158_code
def yJ0_checkBoundsBeginEnd_23922 : MethodName := ⟨RJ0, "checkBoundsBeginEnd", "(III)V"⟩
def RJ1 : String := "java/lang/StringLatin1"
def TJ1 : u_T := fun k => match k with
  | _ => ("", "", "", false)
def tyJ1 : Nat → FieldType := fun k => match k with
  | _ => .int
abbrev wsJ10 : List Cond := u_ws RJ1 TJ1 0
theorem nmJ1 : ∀ a, a < 0 → ∀ b, b < 0 → a ≠ b → (TJ1 a).2.1 ≠ (TJ1 b).2.1 := by decide +kernel
theorem tyJ1_ok : ∀ k, k < 0 → parseFieldDescriptor (TJ1 k).2.2.1 = some (tyJ1 k) := by decide +kernel
abbrev cJ1_charAt_3b067 : ByteArray := prog_24_method_2_code
def yJ1_charAt_3b067 : MethodName := ⟨RJ1, "charAt", "([BI)C"⟩
abbrev cJ1_canEncode_9a6ad : ByteArray := prog_24_method_4_code
def yJ1_canEncode_9a6ad : MethodName := ⟨RJ1, "canEncode", "(I)Z"⟩
abbrev cJ1_indexOf_4cfef : ByteArray := prog_24_method_22_code
def yJ1_indexOf_4cfef : MethodName := ⟨RJ1, "indexOf", "([BIII)I"⟩
abbrev cJ1_indexOfChar_4cfef : ByteArray := prog_24_method_23_code
def yJ1_indexOfChar_4cfef : MethodName := ⟨RJ1, "indexOfChar", "([BIII)I"⟩
def RJ2 : String := "java/lang/StringUTF16"
def TJ2 : u_T := fun k => match k with
  | _ => ("", "", "", false)
def tyJ2 : Nat → FieldType := fun k => match k with
  | _ => .int
abbrev wsJ20 : List Cond := u_ws RJ2 TJ2 0
theorem nmJ2 : ∀ a, a < 0 → ∀ b, b < 0 → a ≠ b → (TJ2 a).2.1 ≠ (TJ2 b).2.1 := by decide +kernel
theorem tyJ2_ok : ∀ k, k < 0 → parseFieldDescriptor (TJ2 k).2.2.1 = some (tyJ2 k) := by decide +kernel
abbrev cJ2_getChar_3b067 : ByteArray := prog_25_method_5_code
def yJ2_getChar_3b067 : MethodName := ⟨RJ2, "getChar", "([BI)C"⟩
abbrev cJ2_length_9d52b : ByteArray := prog_25_method_6_code
def yJ2_length_9d52b : MethodName := ⟨RJ2, "length", "([B)I"⟩
abbrev cJ2_indexOf_4cfef : ByteArray := prog_25_method_40_code
def yJ2_indexOf_4cfef : MethodName := ⟨RJ2, "indexOf", "([BIII)I"⟩
abbrev cJ2_indexOfChar_4cfef : ByteArray := prog_25_method_47_code
def yJ2_indexOfChar_4cfef : MethodName := ⟨RJ2, "indexOfChar", "([BIII)I"⟩
abbrev cJ2_indexOfCharUnsafe_4cfef : ByteArray := prog_25_method_48_code
def yJ2_indexOfCharUnsafe_4cfef : MethodName := ⟨RJ2, "indexOfCharUnsafe", "([BIII)I"⟩
abbrev cJ2_indexOfSupplementary_4cfef : ByteArray := prog_25_method_49_code
def yJ2_indexOfSupplementary_4cfef : MethodName := ⟨RJ2, "indexOfSupplementary", "([BIII)I"⟩
abbrev cJ2_charAt_3b067 : ByteArray := prog_25_method_83_code
def yJ2_charAt_3b067 : MethodName := ⟨RJ2, "charAt", "([BI)C"⟩
abbrev cJ2_checkIndex_2214a : ByteArray := prog_25_method_91_code
def yJ2_checkIndex_2214a : MethodName := ⟨RJ2, "checkIndex", "(I[B)V"⟩
abbrev cJ2_checkBoundsBeginEnd_d044e : ByteArray := prog_25_method_93_code
def yJ2_checkBoundsBeginEnd_d044e : MethodName := ⟨RJ2, "checkBoundsBeginEnd", "(II[B)V"⟩
def RJ10 : String := "java/lang/System"
def TJ10 : u_T := fun k => match k with
  | _ => ("", "", "", false)
def tyJ10 : Nat → FieldType := fun k => match k with
  | _ => .int
abbrev wsJ100 : List Cond := u_ws RJ10 TJ10 0
theorem nmJ10 : ∀ a, a < 0 → ∀ b, b < 0 → a ≠ b → (TJ10 a).2.1 ≠ (TJ10 b).2.1 := by decide +kernel
theorem tyJ10_ok : ∀ k, k < 0 → parseFieldDescriptor (TJ10 k).2.2.1 = some (tyJ10 k) := by decide +kernel
def RJxfd54e : String := "java/lang/constant/Constable"
def TJxfd54e : u_T := fun k => match k with
  | _ => ("", "", "", false)
def tyJxfd54e : Nat → FieldType := fun k => match k with
  | _ => .int
abbrev wsJxfd54e0 : List Cond := u_ws RJxfd54e TJxfd54e 0
theorem nmJxfd54e : ∀ a, a < 0 → ∀ b, b < 0 → a ≠ b → (TJxfd54e a).2.1 ≠ (TJxfd54e b).2.1 := by decide +kernel
theorem tyJxfd54e_ok : ∀ k, k < 0 → parseFieldDescriptor (TJxfd54e k).2.2.1 = some (tyJxfd54e k) := by decide +kernel
def RJx3cf43 : String := "java/lang/constant/ConstantDesc"
def TJx3cf43 : u_T := fun k => match k with
  | _ => ("", "", "", false)
def tyJx3cf43 : Nat → FieldType := fun k => match k with
  | _ => .int
abbrev wsJx3cf430 : List Cond := u_ws RJx3cf43 TJx3cf43 0
theorem nmJx3cf43 : ∀ a, a < 0 → ∀ b, b < 0 → a ≠ b → (TJx3cf43 a).2.1 ≠ (TJx3cf43 b).2.1 := by decide +kernel
theorem tyJx3cf43_ok : ∀ k, k < 0 → parseFieldDescriptor (TJx3cf43 k).2.2.1 = some (tyJx3cf43 k) := by decide +kernel
def RJ3 : String := "jdk/internal/util/Preconditions"
def TJ3 : u_T := fun k => match k with
  | _ => ("", "", "", false)
def tyJ3 : Nat → FieldType := fun k => match k with
  | _ => .int
abbrev wsJ30 : List Cond := u_ws RJ3 TJ3 0
theorem nmJ3 : ∀ a, a < 0 → ∀ b, b < 0 → a ≠ b → (TJ3 a).2.1 ≠ (TJ3 b).2.1 := by decide +kernel
theorem tyJ3_ok : ∀ k, k < 0 → parseFieldDescriptor (TJ3 k).2.2.1 = some (tyJ3 k) := by decide +kernel
abbrev cJ3_checkIndex_8e157 : ByteArray := prog_31_method_11_code
def yJ3_checkIndex_8e157 : MethodName := ⟨RJ3, "checkIndex", "(IILjava/util/function/BiFunction;)I"⟩
abbrev cJ3_checkFromToIndex_8c36e : ByteArray := prog_31_method_12_code
def yJ3_checkFromToIndex_8c36e : MethodName := ⟨RJ3, "checkFromToIndex", "(IIILjava/util/function/BiFunction;)I"⟩
def RL : String := "TeaTrolleyLaw"
abbrev cL_room : ByteArray := method_3_code
def yL_room : MethodName := ⟨RL, "room", "(LTeaTrolley;II[J)I"⟩
abbrev cL_law : ByteArray := code
def yL_law : MethodName := ⟨RL, "law", "([I)Z"⟩
end
section
/-! An abstract machine over the library's instructions, their operands resolved: a world is the shapes of cells (kind, size), ints, longs, references (0: null) and the next free cell. -/
abbrev am_W : Type := (Nat → Nat × Nat) × (Nat → Nat → Int32) × (Nat → Nat → Int64) × (Nat → Nat → Nat) × Nat × Nat × Nat
def am_u {α : Type} (f : Nat → Nat → α) (a k : Nat) (v : α) : Nat → Nat → α := fun b j => if b = a then (if j = k then v else f b j) else f b j
abbrev am_sI (w : am_W) (I : Nat → Nat → Int32) : am_W := (w.1, I, w.2.2.1, w.2.2.2.1, w.2.2.2.2)
abbrev am_sL (w : am_W) (L : Nat → Nat → Int64) : am_W := (w.1, w.2.1, L, w.2.2.2.1, w.2.2.2.2)
abbrev am_sR (w : am_W) (R : Nat → Nat → Nat) : am_W := (w.1, w.2.1, w.2.2.1, R, w.2.2.2.2)
/-- the same cells, other counts of what the method that runs has made -/
abbrev am_zc (w : am_W) (c n : Nat) : am_W := (w.1, w.2.1, w.2.2.1, w.2.2.2.1, w.2.2.2.2.1, c, n)
/-- a new cell: kind, size; all 0 -/
def am_new (w : am_W) (kd n : Nat) : am_W := (fun a => if a = w.2.2.2.2.1 then (kd, n) else w.1 a, fun a k => if a = w.2.2.2.2.1 then 0 else w.2.1 a k, fun a k => if a = w.2.2.2.2.1 then 0 else w.2.2.1 a k, fun a k => if a = w.2.2.2.2.1 then 0 else w.2.2.2.1 a k, w.2.2.2.2.1 + 1, w.2.2.2.2.2.1 + 1, w.2.2.2.2.2.2 + n)
/-- rows of a table: n int arrays of m cells from the next free cell on -/
def am_rows (w : am_W) (m : Nat) : Nat → am_W
  | 0 => w
  | n + 1 => am_new (am_rows w m n) 100 m
/-- arraycopy -/
def am_cpI (I : Nat → Nat → Int32) (a0 a sp dp n : Nat) : Nat → Nat → Int32 := fun b j => if b = a then va_cpy (I a0) (I a) sp dp n j else I b j
def am_nth : List Value → Nat → Value
  | [], _ => .retAddr 0
  | a :: _, 0 => a
  | _ :: l, n + 1 => am_nth l n
def am_fe : List Instr → Nat → Instr
  | [], _ => .nop
  | a :: _, 0 => a
  | _ :: l, n + 1 => am_fe l n
def am_set : List Value → Nat → Value → List Value
  | [], _, _ => []
  | _ :: l, 0, v => v :: l
  | a :: l, n + 1, v => a :: am_set l n v
def am_lng : Value → Bool
  | .long _ => true
  | _ => false
/-- a store isn't over a long's second half -/
def am_okst (ls : List Value) : Nat → Bool
  | 0 => true
  | n + 1 => !am_lng (am_nth ls n)
def am_pi (st : List Value) (f : Int32 → List Value → Prop) : Prop := match st with
  | .int x :: r => f x r
  | _ => False
def am_pl (st : List Value) (f : Int64 → List Value → Prop) : Prop := match st with
  | .long x :: r => f x r
  | _ => False
def am_pr (st : List Value) (f : Nat → List Value → Prop) : Prop := match st with
  | .ref x :: r => f x r
  | _ => False
def am_p1 (st : List Value) (f : Value → List Value → Prop) : Prop := match st with
  | .int x :: r => f (.int x) r
  | .ref x :: r => f (.ref x) r
  | _ => False
def am_cat : List Value → Nat
  | [] => 0
  | .long _ :: l => am_cat l + 2
  | _ :: l => am_cat l + 1
def am_in : List Nat → Nat → Bool
  | [], _ => false
  | a :: l, x => Nat.beq a x || am_in l x
def am_fv (w : am_W) (kd a k : Nat) : Value := match kd with
  | 1 => .long (w.2.2.1 a k)
  | 2 => .ref (w.2.2.2.1 a k)
  | _ => .int (w.2.1 a k)
def am_ent : List Value → List Value
  | [] => []
  | .long x :: l => .long x :: .retAddr 0 :: am_ent l
  | v :: l => v :: am_ent l
def am_pad (l : List Value) (n : Nat) : List Value := l ++ List.replicate (n - l.length) (.retAddr 0)
def am_tk : Nat → List Value → List Value → (List Value → List Value → Prop) → Prop
  | 0, st, acc, f => f acc st
  | _ + 1, [], _, _ => False
  | n + 1, v :: st, acc, f => am_tk n st (v :: acc) f
def am_tab (x lo : Int) : List Int → Int → Int
  | [], d => d
  | t :: l, d => if x = lo then t else am_tab x (lo + 1) l d
def am_lkp (x : Int) : List (Int × Int) → Int → Int
  | [], d => d
  | q :: l, d => if x = q.1 then q.2 else am_lkp x l d
def am_brc (c : ClassFile.Cond) (x y : Int32) : Prop := match c with
  | .eq => x = y
  | .ne => ¬ x = y
  | .lt => x < y
  | .ge => y ≤ x
  | .gt => y < x
  | .le => x ≤ y
abbrev am_K : Type := Nat → List Value → List Value → am_W → Prop
abbrev am_Q : Type := List Value → am_W → Prop
abbrev am_C : Type := Nat → List Value → am_W → am_Q → Prop
/-- one instruction, goal first -/
def am_stp (Cl : am_C) (Q : am_Q) (K : am_K) (i : Instr) (pc : Nat) (ls st : List Value) (w : am_W) : Prop := match i with
  | .sipush v => K (pc + 1) ls (.int (Int32.ofInt v) :: st) w
  | .bipush v => K (pc + 1) ls (.long (Int64.ofInt v) :: st) w
  | .aconst_null => K (pc + 1) ls (.ref 0 :: st) w
  | .ldc a => K (pc + 1) ls (.ref a :: st) w
  | .getstatic a => K (pc + 1) ls (.ref a :: st) w
  | .iload n => match am_nth ls n with
    | .int x => K (pc + 1) ls (.int x :: st) w
    | _ => False
  | .lload n => match am_nth ls n with
    | .long x => K (pc + 1) ls (.long x :: st) w
    | _ => False
  | .aload n => match am_nth ls n with
    | .ref x => K (pc + 1) ls (.ref x :: st) w
    | _ => False
  | .istore n => am_pi st fun x r => bif am_okst ls n then K (pc + 1) (am_set ls n (.int x)) r w else False
  | .astore n => am_pr st fun x r => bif am_okst ls n then K (pc + 1) (am_set ls n (.ref x)) r w else False
  | .lstore n => am_pl st fun x r => bif am_okst ls n then K (pc + 1) (am_set (am_set ls n (.long x)) (n + 1) (.retAddr 0)) r w else False
  | .iinc n c => match am_nth ls n with
    | .int x => K (pc + 1) (am_set ls n (.int (x + Int32.ofInt c))) st w
    | _ => False
  | .iadd => am_pi st fun y r => am_pi r fun x r => K (pc + 1) ls (.int (x + y) :: r) w
  | .isub => am_pi st fun y r => am_pi r fun x r => K (pc + 1) ls (.int (x - y) :: r) w
  | .imul => am_pi st fun y r => am_pi r fun x r => K (pc + 1) ls (.int (x * y) :: r) w
  | .idiv => am_pi st fun y r => am_pi r fun x r => ¬ y = 0 ∧ K (pc + 1) ls (.int (x / y) :: r) w
  | .irem => am_pi st fun y r => am_pi r fun x r => ¬ y = 0 ∧ K (pc + 1) ls (.int (x - x / y * y) :: r) w
  | .iand => am_pi st fun y r => am_pi r fun x r => K (pc + 1) ls (.int (x &&& y) :: r) w
  | .ior => am_pi st fun y r => am_pi r fun x r => K (pc + 1) ls (.int (x ||| y) :: r) w
  | .ixor => am_pi st fun y r => am_pi r fun x r => K (pc + 1) ls (.int (x ^^^ y) :: r) w
  | .ishl => am_pi st fun y r => am_pi r fun x r => K (pc + 1) ls (.int (x <<< (y &&& 31)) :: r) w
  | .ishr => am_pi st fun y r => am_pi r fun x r => K (pc + 1) ls (.int (x >>> (y &&& 31)) :: r) w
  | .iushr => am_pi st fun y r => am_pi r fun x r => K (pc + 1) ls (.int (x.toUInt32 >>> (y.toUInt32 &&& Int32.toUInt32 31)).toInt32 :: r) w
  | .ladd => am_pl st fun y r => am_pl r fun x r => K (pc + 1) ls (.long (x + y) :: r) w
  | .lsub => am_pl st fun y r => am_pl r fun x r => K (pc + 1) ls (.long (x - y) :: r) w
  | .lmul => am_pl st fun y r => am_pl r fun x r => K (pc + 1) ls (.long (x * y) :: r) w
  | .ldiv => am_pl st fun y r => am_pl r fun x r => ¬ y = 0 ∧ K (pc + 1) ls (.long (x / y) :: r) w
  | .lrem => am_pl st fun y r => am_pl r fun x r => ¬ y = 0 ∧ K (pc + 1) ls (.long (x - x / y * y) :: r) w
  | .land => am_pl st fun y r => am_pl r fun x r => K (pc + 1) ls (.long (x &&& y) :: r) w
  | .lor => am_pl st fun y r => am_pl r fun x r => K (pc + 1) ls (.long (x ||| y) :: r) w
  | .lshl => am_pi st fun y r => am_pl r fun x r => K (pc + 1) ls (.long (x <<< (y.toInt64 &&& 63)) :: r) w
  | .lushr => am_pi st fun y r => am_pl r fun x r => K (pc + 1) ls (.long (x.toUInt64 >>> (y.toInt64.toUInt64 &&& Int64.toUInt64 63)).toInt64 :: r) w
  | .lcmp => am_pl st fun y r => am_pl r fun x r => K (pc + 1) ls (.int (lg_cmp x y) :: r) w
  | .i2l => am_pi st fun x r => K (pc + 1) ls (.long x.toInt64 :: r) w
  | .l2i => am_pl st fun x r => K (pc + 1) ls (.int x.toInt32 :: r) w
  | .i2c => am_pi st fun x r => K (pc + 1) ls (.int (x.toUInt32 % 65536).toInt32 :: r) w
  | .i2b => am_pi st fun x r => K (pc + 1) ls (.int x.toInt8.toInt32 :: r) w
  | .dup => am_p1 st fun v r => K (pc + 1) ls (v :: v :: r) w
  | .dup2 => am_p1 st fun v r => am_p1 r fun u r => K (pc + 1) ls (v :: u :: v :: u :: r) w
  | .pop => am_p1 st fun _ r => K (pc + 1) ls r w
  | .goto t => K t.toNat ls st w
  | .ifCond c t => am_pi st fun x r => (am_brc c x 0 → K t.toNat ls r w) ∧ (¬ am_brc c x 0 → K (pc + 1) ls r w)
  | .if_icmp c t => am_pi st fun y r => am_pi r fun x r => (am_brc c x y → K t.toNat ls r w) ∧ (¬ am_brc c x y → K (pc + 1) ls r w)
  | .ifnull t => am_pr st fun x r => (x = 0 → K t.toNat ls r w) ∧ (¬ x = 0 → K (pc + 1) ls r w)
  | .ifnonnull t => am_pr st fun x r => (¬ x = 0 → K t.toNat ls r w) ∧ (x = 0 → K (pc + 1) ls r w)
  | .tableswitch d lo _ ts => am_pi st fun x r => K (am_tab x.toInt lo ts.toList d).toNat ls r w
  | .lookupswitch d ps => am_pi st fun x r => K (am_lkp x.toInt ps.toList d).toNat ls r w
  | .getfield q => am_pr st fun a r => (w.1 a).1 = q / 256 ∧ K (pc + 1) ls (am_fv w (q % 4) a (q / 4 % 64) :: r) w
  | .putfield q => match q % 4 with
    | 1 => am_pl st fun x r => am_pr r fun a r => (w.1 a).1 = q / 256 ∧ K (pc + 1) ls r (am_sL w (am_u w.2.2.1 a (q / 4 % 64) x))
    | 2 => am_pr st fun x r => am_pr r fun a r => (w.1 a).1 = q / 256 ∧ K (pc + 1) ls r (am_sR w (am_u w.2.2.2.1 a (q / 4 % 64) x))
    | 3 => am_pi st fun x r => am_pr r fun a r => (w.1 a).1 = q / 256 ∧ (x = 0 ∨ x = 1) ∧ K (pc + 1) ls r (am_sI w (am_u w.2.1 a (q / 4 % 64) x))
    | _ => am_pi st fun x r => am_pr r fun a r => (w.1 a).1 = q / 256 ∧ K (pc + 1) ls r (am_sI w (am_u w.2.1 a (q / 4 % 64) x))
  | .iaload => am_pi st fun i r => am_pr r fun a r => ((w.1 a).1 = 100 ∧ vp_in i (w.1 a).2) ∧ K (pc + 1) ls (.int (w.2.1 a i.toNatClampNeg) :: r) w
  | .saload => am_pi st fun i r => am_pr r fun a r => ((w.1 a).1 = 200 ∧ vp_in i (w.1 a).2) ∧ K (pc + 1) ls (.int (w.2.1 a i.toNatClampNeg) :: r) w
  | .baload => am_pi st fun i r => am_pr r fun a r => (((w.1 a).1 = 102 ∨ (w.1 a).1 = 103 ∨ (w.1 a).1 = 202) ∧ vp_in i (w.1 a).2) ∧ K (pc + 1) ls (.int (w.2.1 a i.toNatClampNeg) :: r) w
  | .laload => am_pi st fun i r => am_pr r fun a r => ((w.1 a).1 = 101 ∧ vp_in i (w.1 a).2) ∧ K (pc + 1) ls (.long (w.2.2.1 a i.toNatClampNeg) :: r) w
  | .aaload => am_pi st fun i r => am_pr r fun a r => (((w.1 a).1 = 104 ∨ (w.1 a).1 = 105 ∨ (w.1 a).1 = 106) ∧ vp_in i (w.1 a).2) ∧ K (pc + 1) ls (.ref (w.2.2.2.1 a i.toNatClampNeg) :: r) w
  | .iastore => am_pi st fun x r => am_pi r fun i r => am_pr r fun a r => ((w.1 a).1 = 100 ∧ vp_in i (w.1 a).2) ∧ K (pc + 1) ls r (am_sI w (am_u w.2.1 a i.toNatClampNeg x))
  | .bastore => am_pi st fun x r => am_pi r fun i r => am_pr r fun a r => (((w.1 a).1 = 102 ∧ vp_in i (w.1 a).2) ∧ K (pc + 1) ls r (am_sI w (am_u w.2.1 a i.toNatClampNeg x.toInt8.toInt32))) ∨ (((w.1 a).1 = 103 ∧ vp_in i (w.1 a).2) ∧ (x = 0 ∨ x = 1) ∧ K (pc + 1) ls r (am_sI w (am_u w.2.1 a i.toNatClampNeg x)))
  | .lastore => am_pl st fun x r => am_pi r fun i r => am_pr r fun a r => ((w.1 a).1 = 101 ∧ vp_in i (w.1 a).2) ∧ K (pc + 1) ls r (am_sL w (am_u w.2.2.1 a i.toNatClampNeg x))
  | .aastore => am_pr st fun x r => am_pi r fun i r => am_pr r fun a r => ((((w.1 a).1 = 104 ∧ (w.1 x).1 = 1) ∨ ((w.1 a).1 = 105 ∧ (w.1 x).1 = 8)) ∧ vp_in i (w.1 a).2) ∧ K (pc + 1) ls r (am_sR w (am_u w.2.2.2.1 a i.toNatClampNeg x))
  | .arraylength => am_pr st fun a r => (100 ≤ (w.1 a).1 ∧ (w.1 a).1 ≤ 200) ∧ K (pc + 1) ls (.int (Int32.ofNat (w.1 a).2) :: r) w
  | .new q => bif Nat.blt w.2.2.2.2.1 204 then K (pc + 1) ls (.ref w.2.2.2.2.1 :: st) (am_new w (q / 64) (q % 64)) else False
  | .newarray t => am_pi st fun n r => bif Nat.blt w.2.2.2.2.1 204 then (0 ≤ n ∧ n ≤ 20000) ∧ K (pc + 1) ls (.ref w.2.2.2.2.1 :: r) (am_new w (match t with | .int => 100 | .long => 101 | .byte => 102 | _ => 103) n.toNatClampNeg) else False
  | .anewarray c => am_pi st fun n r => bif Nat.blt w.2.2.2.2.1 204 then (0 ≤ n ∧ n ≤ 20000) ∧ K (pc + 1) ls (.ref w.2.2.2.2.1 :: r) (am_new w c n.toNatClampNeg) else False
  | .multianewarray _ _ => am_pi st fun m r => am_pi r fun n r => bif Nat.blt (w.2.2.2.2.1 + 4) 204 then (n = 4 ∧ m = 8) ∧ K (pc + 1) ls (.ref w.2.2.2.2.1 :: r) (am_sR (am_rows (am_new w 106 4) 8 4) (fun b j => if b = w.2.2.2.2.1 then (if j < 4 then w.2.2.2.2.1 + 1 + j else 0) else (am_rows (am_new w 106 4) 8 4).2.2.2.1 b j)) else False
  | .invokevirtual q => am_tk (q / 128 % 16) st [] fun as r => match as with
    | .ref a :: _ => (w.1 a).1 = q % 128 ∧ (bif Nat.ble (am_cat r) 8 then Cl (q / 2048) as (am_zc w 0 0) (fun v w' => K (pc + 1) ls (v ++ r) (am_zc w' w.2.2.2.2.2.1 w.2.2.2.2.2.2)) else False)
    | _ => False
  | .invokespecial q => am_tk (q / 128 % 16) st [] fun as r => bif Nat.ble (am_cat r) 8 then Cl (q / 2048 % 1024) as (am_zc w 0 0) (fun v w' => K (pc + 1) ls (v ++ r) (am_zc w' (w.2.2.2.2.2.1 + q / 2097152 % 1000) (w.2.2.2.2.2.2 + q / 2097152000))) else False
  | .invokestatic q => am_tk (q / 128 % 16) st [] fun as r => bif Nat.ble (am_cat r) 8 then Cl (q / 2048) as (am_zc w 0 0) (fun v w' => K (pc + 1) ls (v ++ r) (am_zc w' w.2.2.2.2.2.1 w.2.2.2.2.2.2)) else False
  | .pop2 => am_pr st fun _ r => K (pc + 1) ls r w
  | .dmul => am_pi st fun y r => am_pi r fun x r => K (pc + 1) ls (.int (if y < x then y else x) :: r) w
  | .dadd => am_pi st fun y r => am_pi r fun x r => K (pc + 1) ls (.int (if x < y then y else x) :: r) w
  | .dneg => am_pi st fun x r => K (pc + 1) ls (.int (if 0 ≤ x then x else 0 - x) :: r) w
  | .fmul => am_pl st fun y r => am_pl r fun x r => K (pc + 1) ls (.long (if y < x then y else x) :: r) w
  | .fadd => am_pl st fun y r => am_pl r fun x r => K (pc + 1) ls (.long (if y < x then x else y) :: r) w
  | .frem => am_pi st fun n r => am_pi r fun dp r => am_pr r fun a r => am_pi r fun sp r => am_pr r fun a0 r => ((w.1 a0).1 = 100 ∧ (w.1 a).1 = 100) ∧ (¬ sp < 0 ∧ ¬ dp < 0 ∧ ¬ n < 0 ∧ sp.toNatClampNeg + n.toNatClampNeg ≤ (w.1 a0).2 ∧ dp.toNatClampNeg + n.toNatClampNeg ≤ (w.1 a).2) ∧ K (pc + 1) ls r (am_sI w (am_cpI w.2.1 a0 a sp.toNatClampNeg dp.toNatClampNeg n.toNatClampNeg))
  | .fdiv => am_pi st fun n r => am_pi r fun dp r => am_pr r fun a r => am_pi r fun sp r => am_pr r fun a0 r => ((w.1 a0).1 = 200 ∧ (w.1 a).1 = 100) ∧ (¬ sp < 0 ∧ ¬ dp < 0 ∧ ¬ n < 0 ∧ sp.toNatClampNeg + n.toNatClampNeg ≤ (w.1 a0).2 ∧ dp.toNatClampNeg + n.toNatClampNeg ≤ (w.1 a).2) ∧ K (pc + 1) ls r (am_sI w (am_cpI w.2.1 a0 a sp.toNatClampNeg dp.toNatClampNeg n.toNatClampNeg))
  | .ireturn => match st with
    | [.int x] => Q [.int x] w
    | _ => False
  | .ret t => match st with
    | [.int x] => (match t with | 0 => x = 0 ∨ x = 1 | 1 => (x.toUInt32 % 65536).toInt32 = x | _ => x.toInt8.toInt32 = x) ∧ Q [.int x] w
    | _ => False
  | .lreturn => match st with
    | [.long x] => Q [.long x] w
    | _ => False
  | .areturn => match st with
    | [.ref x] => Q [.ref x] w
    | _ => False
  | .return_ => match st with
    | [] => Q [] w
    | _ => False
  | _ => False
/-- up to n instructions, to a place of 'stop' or the end -/
def am_wp (code : List Instr) (Cl : am_C) (Q : am_Q) (stop : List Nat) (K : am_K) : Nat → Nat → List Value → List Value → am_W → Prop
  | 0, pc, ls, st, w => K pc ls st w
  | n + 1, pc, ls, st, w => am_stp Cl Q (fun pc' ls' st' w' => bif am_in stop pc' then K pc' ls' st' w' else am_wp code Cl Q stop K n pc' ls' st' w') (am_fe code pc) pc ls st w
end
section
/-- the shapes of the cells behind the two constructors and the law's own array; 5000 on: static arrays, texts; 6000: the script -/
def sh_L : List (Nat × Nat) := [(0, 0), (12, 18), (9, 2), (100, 240), (4, 3), (3, 4), (100, 4), (100, 40), (100, 72), (2, 3), (1, 4), (100, 240), (100, 40), (100, 8), (3, 4), (100, 4), (100, 40), (100, 72), (8, 8), (100, 8), (100, 8), (5, 7), (105, 40), (100, 300), (8, 8), (100, 8), (100, 8), (100, 300), (8, 8), (100, 8), (100, 8), (8, 8), (100, 8), (100, 8), (8, 8), (100, 8), (100, 8), (8, 8), (100, 8), (100, 8), (8, 8), (100, 8), (100, 8), (8, 8), (100, 8), (100, 8), (8, 8), (100, 8), (100, 8), (8, 8), (100, 8), (100, 8), (8, 8), (100, 8), (100, 8), (8, 8), (100, 8), (100, 8), (8, 8), (100, 8), (100, 8), (8, 8), (100, 8), (100, 8), (8, 8), (100, 8), (100, 8), (8, 8), (100, 8), (100, 8), (8, 8), (100, 8), (100, 8), (8, 8), (100, 8), (100, 8), (8, 8), (100, 8), (100, 8), (8, 8), (100, 8), (100, 8), (8, 8), (100, 8), (100, 8), (8, 8), (100, 8), (100, 8), (8, 8), (100, 8), (100, 8), (8, 8), (100, 8), (100, 8), (8, 8), (100, 8), (100, 8), (8, 8), (100, 8), (100, 8), (8, 8), (100, 8), (100, 8), (8, 8), (100, 8), (100, 8), (8, 8), (100, 8), (100, 8), (8, 8), (100, 8), (100, 8), (8, 8), (100, 8), (100, 8), (8, 8), (100, 8), (100, 8), (8, 8), (100, 8), (100, 8), (8, 8), (100, 8), (100, 8), (8, 8), (100, 8), (100, 8), (8, 8), (100, 8), (100, 8), (8, 8), (100, 8), (100, 8), (8, 8), (100, 8), (100, 8), (8, 8), (100, 8), (100, 8), (8, 8), (100, 8), (100, 8), (8, 8), (100, 8), (100, 8), (8, 8), (100, 8), (100, 8), (104, 4), (106, 4), (100, 8), (100, 8), (100, 8), (100, 8), (11, 4), (100, 6), (10, 13), (100, 8), (100, 8), (100, 8), (100, 8), (6, 7), (7, 7), (100, 8), (100, 8), (100, 8), (100, 8), (1, 4), (100, 240), (100, 40), (1, 4), (100, 240), (100, 40), (1, 4), (100, 240), (100, 40), (1, 4), (100, 240), (100, 40), (13, 62), (102, 240), (102, 960), (100, 4), (100, 128), (100, 4), (100, 4), (100, 40), (100, 40), (100, 40), (100, 5), (100, 210), (100, 8), (100, 8), (100, 8), (101, 8191), (100, 8191), (100, 8400), (100, 10), (100, 10), (100, 8), (100, 8), (103, 10), (100, 210), (101, 1)]
def sh_n : List (Nat × Nat) → Nat → Nat × Nat
  | [], _ => (0, 0)
  | a :: _, 0 => a
  | _ :: l, n + 1 => sh_n l n
def sh_nn : List Nat → Nat → Nat
  | [], _ => 0
  | a :: _, 0 => a
  | _ :: l, n + 1 => sh_nn l n
def sh_nl : List (List Nat) → Nat → List Nat
  | [], _ => []
  | a :: _, 0 => a
  | _ :: l, n + 1 => sh_nl l n
def sh_R : List (List Nat) := [[], [2, 4, 9, 13, 14, 18, 21, 148, 149, 154, 156, 161, 162], [3], [], [5, 2], [6, 7, 8], [], [], [], [10, 2], [11, 12], [], [], [], [15, 16, 17], [], [], [], [19, 20], [], [], [22, 23, 24, 27], [28, 31, 34, 37, 40, 43, 46, 49, 52, 55, 58, 61, 64, 67, 70, 73, 76, 79, 82, 85, 88, 91, 94, 97, 100, 103, 106, 109, 112, 115, 118, 121, 124, 127, 130, 133, 136, 139, 142, 145], [], [25, 26], [], [], [], [29, 30], [], [], [32, 33], [], [], [35, 36], [], [], [38, 39], [], [], [41, 42], [], [], [44, 45], [], [], [47, 48], [], [], [50, 51], [], [], [53, 54], [], [], [56, 57], [], [], [59, 60], [], [], [62, 63], [], [], [65, 66], [], [], [68, 69], [], [], [71, 72], [], [], [74, 75], [], [], [77, 78], [], [], [80, 81], [], [], [83, 84], [], [], [86, 87], [], [], [89, 90], [], [], [92, 93], [], [], [95, 96], [], [], [98, 99], [], [], [101, 102], [], [], [104, 105], [], [], [107, 108], [], [], [110, 111], [], [], [113, 114], [], [], [116, 117], [], [], [119, 120], [], [], [122, 123], [], [], [125, 126], [], [], [128, 129], [], [], [131, 132], [], [], [134, 135], [], [], [137, 138], [], [], [140, 141], [], [], [143, 144], [], [], [146, 147], [], [], [167, 170, 173, 176], [150, 151, 152, 153], [], [], [], [], [14, 18, 0, 155], [], [157, 158, 159, 160, 154], [], [], [], [], [154], [154, 163, 164, 165, 166], [], [], [], [], [168, 169], [], [], [171, 172], [], [], [174, 175], [], [], [177, 178], [], [], [0, 180, 181, 182, 183, 180, 0, 0, 0, 0, 0, 0, 0, 0, 0, 5100, 5101, 0, 184, 185, 186, 187, 188, 189, 0, 0, 0, 0, 190, 0, 0, 0, 191, 192, 193, 0, 0, 0, 0, 0, 0, 0, 0, 194, 195, 196, 0, 0, 0, 0, 197, 198, 199, 200, 201, 0, 0, 0, 0, 0, 202], [], [], [], [], [], [], [], [], [], [], [], [], [], [], [], [], [], [], [], [], [], [], [], []]
def sh_S (sl : Nat) (a : Nat) : Nat × Nat := bif Nat.ble 204 a then (bif Nat.beq a 6000 then (200, sl) else bif Nat.ble 5100 a then (90, 0) else bif Nat.ble 5000 a then (200, sh_nn [4, 5, 4, 4, 5, 5, 9] (a - 5000)) else (0, 0)) else sh_n sh_L a
def sh_RR (lw tx : Nat) (a k : Nat) : Nat := bif Nat.beq a 154 && Nat.beq k 2 then lw else bif Nat.beq a 179 && Nat.beq k 5 then tx else sh_nn (sh_nl sh_R a) k
/-- the world behind the constructors -/
abbrev mk (sl : Nat) (I : Nat → Nat → Int32) (L : Nat → Nat → Int64) (lw tx : Nat) : am_W := (sh_S sl, I, L, sh_RR lw tx, 204, 0, 0)
end
section
/-! Tables of the system: classes, methods, links by their places among the words; printed by a program of mine (wip/whole/emit_tab.py) -/
def lw_g : List Cond := lw_tbl.filter goodWord
theorem lw_g_of {L : List Cond} {ps : List Nat} (h : L = ps.filterMap (fun i => lw_tbl[i]?)) (hg : L.all goodWord = true) : ∀ w ∈ L, w ∈ lw_g := by
  intro w hw
  have h1 := List.all_eq_true.mp hg w hw
  rw [h] at hw
  obtain ⟨i, -, hi⟩ := List.mem_filterMap.mp hw
  exact List.mem_filter.mpr ⟨List.mem_of_getElem? hi, h1⟩
def am_RL : List String := [RX0, RX1, RX2, RX3, RX4, RX5, RX6, RX7, RX8, RX9, RX10, RX11, RX12, RL, RJ6, RJ9, RJ0, RJ1, RJ3]
def am_Rn (o : Nat) : String := am_RL.getD o ""
def am_cls : List vw_C := [(RX0, TX0, 4), (RX1, TX1, 3), (RX2, TX2, 4), (RX3, TX3, 3), (RX4, TX4, 7), (RX5, TX5, 7), (RX6, TX6, 7), (RX7, TX7, 8), (RX8, TX8, 2), (RX9, TX9, 13), (RX10, TX10, 4), (RX11, TX11, 18), (RX12, TX12, 62)]
def am_F (ci k : Nat) : String × String × String × Bool := (am_cls.getD ci ("", fun _ => ("", "", "", false), 0)).2.1 k
def am_nf (ci : Nat) : Nat := (am_cls.getD ci ("", fun _ => ("", "", "", false), 0)).2.2
def am_tyL : List (Nat → FieldType) := [tyX0, tyX1, tyX2, tyX3, tyX4, tyX5, tyX6, tyX7, tyX8, tyX9, tyX10, tyX11, tyX12]
def am_ty (ci k : Nat) : FieldType := am_tyL.getD ci (fun _ => .int) k
def am_kd : FieldType → Nat
  | .long => 1
  | .object _ => 2
  | .array _ => 2
  | .boolean => 3
  | _ => 0
def am_LF : List (Nat × Nat × Nat) := [(0, 9, 258), (0, 15, 262), (0, 18, 264), (0, 22, 268), (1, 12, 514), (1, 18, 520), (1, 22, 518), (1, 39, 2308), (2, 11, 770), (2, 15, 774), (2, 18, 778), (2, 21, 780), (3, 12, 1026), (3, 18, 1032), (3, 22, 1030), (3, 38, 780), (3, 48, 2308), (3, 63, 770), (3, 81, 774), (4, 11, 1282), (4, 15, 1286), (4, 20, 1290), (4, 24, 1294), (4, 27, 1296), (4, 31, 1300), (4, 34, 1307), (5, 9, 1543), (5, 15, 1544), (5, 19, 1548), (5, 22, 1552), (5, 25, 1556), (5, 28, 1560), (5, 31, 1538), (5, 35, 2818), (5, 41, 780), (5, 50, 2822), (5, 54, 2064), (5, 59, 2068), (5, 95, 2050), (6, 9, 1798), (6, 15, 1802), (6, 18, 1806), (6, 21, 1810), (6, 24, 1812), (6, 28, 1816), (6, 31, 1794), (6, 49, 2818), (6, 65, 780), (7, 9, 2050), (7, 15, 2054), (7, 18, 2056), (7, 22, 2060), (7, 25, 2064), (7, 28, 2068), (7, 31, 2072), (7, 34, 2076), (7, 37, 780), (7, 46, 770), (8, 11, 2306), (8, 15, 2308), (9, 9, 2562), (9, 15, 2566), (9, 18, 2570), (9, 21, 2574), (9, 24, 2580), (9, 28, 2584), (9, 31, 2588), (9, 34, 2592), (9, 37, 2596), (9, 40, 2600), (9, 43, 2604), (9, 46, 2608), (9, 49, 2578), (9, 53, 2822), (9, 59, 2068), (9, 65, 2818), (9, 69, 780), (9, 96, 2064), (9, 104, 2060), (10, 9, 2826), (10, 25, 2830), (10, 29, 2818), (10, 33, 2822), (10, 43, 2060), (10, 52, 770), (10, 71, 2050), (11, 10, 3074), (11, 21, 3078), (11, 28, 3082), (11, 32, 3086), (11, 39, 3090), (11, 46, 3094), (11, 53, 3098), (11, 59, 3102), (11, 65, 3106), (11, 73, 3110), (11, 82, 3114), (11, 89, 3118), (11, 96, 3122), (11, 100, 3124), (11, 104, 3128), (11, 107, 3132), (11, 110, 3136), (11, 113, 3140), (11, 121, 2308), (11, 159, 1026), (11, 174, 780), (11, 177, 514), (11, 193, 2064), (11, 196, 770), (11, 199, 2060), (11, 202, 2068), (11, 228, 2826), (11, 238, 2076), (11, 247, 2600), (11, 221, 2056), (11, 215, 2050), (11, 266, 1300), (11, 282, 1307), (11, 295, 2072), (11, 218, 2054), (11, 306, 2596), (11, 309, 2604), (11, 319, 2562), (11, 322, 2566), (11, 325, 2570), (11, 348, 2592), (11, 362, 2608), (11, 377, 1548), (11, 380, 1552), (11, 387, 1556), (11, 390, 1560), (11, 403, 1816), (12, 9, 3334), (12, 13, 3338), (12, 16, 3342), (12, 20, 3346), (12, 23, 3350), (12, 28, 3390), (12, 34, 3394), (12, 37, 3402), (12, 40, 3406), (12, 43, 3410), (12, 46, 3414), (12, 49, 3418), (12, 52, 3422), (12, 55, 3442), (12, 58, 3444), (12, 62, 3448), (12, 65, 3458), (12, 68, 3462), (12, 71, 3466), (12, 74, 3502), (12, 78, 3506), (12, 81, 3510), (12, 84, 3530), (12, 87, 3534), (12, 90, 3538), (12, 93, 3542), (12, 96, 3546), (12, 100, 3570), (12, 103, 3328), (12, 116, 3352), (12, 126, 3368), (12, 129, 3364), (12, 132, 3360), (12, 135, 3372), (12, 138, 3376), (12, 204, 3399), (12, 208, 3380), (12, 211, 3384), (12, 249, 3439), (12, 252, 3428), (12, 280, 3356), (12, 283, 3432), (12, 288, 3424), (12, 291, 3548), (12, 294, 3512), (12, 297, 3575), (12, 306, 3468), (12, 309, 3472), (12, 312, 3476), (12, 315, 3480), (12, 318, 3484), (12, 321, 3488), (12, 324, 3492), (12, 327, 3496), (12, 384, 3452), (12, 399, 3517), (12, 410, 3524), (12, 413, 3520), (12, 429, 3552), (12, 432, 3556), (12, 435, 3560), (12, 438, 3564)]
def am_LFs : List (Nat × Nat × Nat) := [(16, 9, 23042), (16, 15, 23044)]
def am_LC : List (Nat × Nat × Int) := [(0, 31, 100000), (0, 50, (-1000000)), (0, 51, 1000000), (1, 76, 100000), (5, 104, 1000000), (6, 35, 1000000), (9, 99, 1000000), (11, 234, (-1000000)), (12, 383, (-1000000)), (12, 467, 1000000), (14, 265, 1431655765), (14, 266, 858993459), (14, 267, 252645135)]
def am_LL : List (Nat × Nat × Int) := [(0, 57, (-1000000)), (0, 59, 1000000), (11, 262, 6364136223846793005), (11, 264, 1442695040888963407), (12, 148, (-1000000)), (12, 150, 1000000), (12, 269, 2), (12, 337, 100), (12, 339, 4), (12, 341, 40), (12, 343, 61), (12, 345, 9), (12, 347, 5), (12, 349, 8191), (12, 371, 3), (12, 376, 6), (12, 381, 7), (12, 393, 10), (12, 395, 99), (12, 397, 60), (12, 403, 6364136223846793005), (12, 405, 1442695040888963407), (12, 427, 999), (12, 451, 200), (13, 94, 4294967295)]
def am_LS : List (Nat × Nat × Nat × Nat) := [(1, 99, 5101, 0), (3, 54, 5102, 0), (3, 73, 5103, 0), (10, 17, 5101, 0), (12, 26, 5100, 0), (12, 32, 5101, 0), (12, 255, 5102, 0), (12, 261, 5103, 1)]
def am_LG : List (Nat × Nat × Nat) := [(2, 25, 5000), (2, 34, 5001), (3, 56, 5002), (3, 60, 5003), (3, 75, 5004), (3, 78, 5005), (6, 90, 5006), (16, 38, 1), (16, 1053, 7000)]
def am_LM : List (Nat × Nat × Nat × Nat) := [(0, 32, 28, 0), (0, 42, 27, 0), (0, 46, 26, 1), (0, 52, 180, 3), (1, 11, 20, 2), (1, 26, 21, 0), (1, 29, 100, 0), (1, 35, 34, 0), (1, 42, 32, 0), (1, 45, 99, 0), (1, 48, 31, 0), (1, 52, 33, 0), (1, 56, 43, 0), (1, 59, 42, 0), (1, 62, 36, 0), (1, 66, 35, 0), (1, 69, 23, 0), (1, 72, 37, 0), (1, 77, 24, 0), (1, 81, 38, 0), (1, 84, 39, 0), (1, 87, 40, 0), (1, 90, 41, 0), (1, 93, 44, 0), (1, 96, 45, 0), (1, 101, 291, 0), (1, 106, 46, 0), (1, 109, 101, 0), (1, 113, 102, 0), (2, 37, 53, 0), (2, 41, 52, 0), (3, 11, 47, 2), (3, 26, 48, 0), (3, 29, 100, 0), (3, 35, 99, 0), (3, 41, 58, 0), (3, 45, 59, 0), (3, 51, 50, 0), (3, 66, 60, 0), (3, 70, 49, 0), (3, 84, 289, 0), (3, 89, 291, 0), (3, 92, 179, 3), (3, 96, 61, 0), (3, 100, 101, 0), (3, 103, 102, 0), (4, 19, 90, 2), (4, 38, 92, 0), (4, 48, 68, 1), (4, 52, 288, 1), (5, 46, 55, 0), (5, 62, 74, 0), (5, 66, 75, 0), (5, 70, 287, 1), (5, 76, 179, 3), (5, 80, 113, 0), (5, 84, 116, 0), (5, 88, 115, 0), (5, 91, 114, 0), (5, 105, 77, 0), (5, 108, 78, 0), (5, 112, 112, 0), (5, 115, 79, 0), (5, 119, 53, 0), (6, 45, 84, 0), (6, 55, 55, 0), (6, 61, 87, 0), (6, 68, 112, 0), (6, 71, 53, 0), (6, 74, 89, 0), (6, 82, 179, 3), (6, 86, 88, 0), (6, 93, 287, 1), (7, 42, 53, 0), (8, 19, 96, 1), (8, 23, 97, 0), (8, 27, 99, 0), (9, 72, 179, 3), (9, 76, 113, 0), (9, 80, 112, 0), (9, 83, 105, 0), (9, 87, 53, 0), (9, 90, 116, 0), (9, 93, 115, 0), (9, 100, 109, 0), (9, 107, 110, 0), (10, 19, 289, 0), (10, 37, 54, 0), (10, 49, 112, 0), (10, 60, 53, 0), (10, 63, 25, 0), (10, 67, 180, 3), (11, 9, 94, 2), (11, 18, 56, 2), (11, 27, 29, 2), (11, 38, 47, 2), (11, 45, 90, 2), (11, 52, 62, 2), (11, 70, 111, 2), (11, 79, 103, 2), (11, 88, 71, 2), (11, 95, 80, 2), (11, 116, 20, 2), (11, 117, 95, 0), (11, 124, 98, 0), (11, 128, 57, 0), (11, 132, 30, 0), (11, 133, 122, 0), (11, 136, 120, 0), (11, 140, 123, 0), (11, 143, 124, 0), (11, 146, 125, 0), (11, 149, 100, 0), (11, 152, 99, 0), (11, 155, 179, 1), (11, 162, 51, 0), (11, 166, 91, 0), (11, 169, 63, 0), (11, 172, 81, 0), (11, 173, 72, 0), (11, 180, 22, 0), (11, 189, 174, 0), (11, 231, 176, 0), (11, 205, 175, 0), (11, 235, 54, 0), (11, 241, 144, 0), (11, 244, 145, 0), (11, 250, 138, 1), (11, 254, 139, 1), (11, 258, 180, 1), (11, 269, 65, 0), (11, 273, 184, 0), (11, 276, 67, 0), (11, 279, 69, 0), (11, 286, 70, 0), (11, 289, 64, 0), (11, 292, 182, 0), (11, 298, 106, 0), (11, 312, 66, 0), (11, 316, 183, 0), (11, 327, 55, 0), (11, 330, 149, 0), (11, 333, 150, 0), (11, 336, 153, 0), (11, 339, 177, 1), (11, 342, 154, 0), (11, 345, 107, 0), (11, 224, 53, 0), (11, 351, 181, 0), (11, 355, 104, 0), (11, 359, 108, 0), (11, 365, 93, 0), (11, 368, 160, 0), (11, 371, 161, 0), (11, 374, 73, 0), (11, 383, 76, 0), (11, 393, 165, 0), (11, 396, 178, 1), (11, 399, 82, 0), (11, 406, 83, 0), (11, 409, 85, 0), (11, 412, 86, 0), (12, 106, 289, 0), (12, 112, 290, 0), (12, 118, 190, 1), (12, 122, 191, 0), (12, 141, 195, 0), (12, 145, 194, 0), (12, 161, 189, 1), (12, 165, 196, 0), (12, 168, 202, 0), (12, 171, 197, 0), (12, 175, 198, 0), (12, 178, 200, 0), (12, 181, 199, 1), (12, 185, 201, 0), (12, 188, 203, 1), (12, 191, 205, 0), (12, 194, 207, 0), (12, 198, 204, 0), (12, 201, 206, 0), (12, 214, 209, 0), (12, 218, 208, 0), (12, 221, 211, 0), (12, 224, 187, 1), (12, 228, 216, 1), (12, 232, 212, 1), (12, 236, 188, 1), (12, 240, 215, 1), (12, 243, 214, 1), (12, 246, 213, 0), (12, 257, 217, 0), (12, 263, 218, 0), (12, 266, 219, 0), (12, 271, 220, 0), (12, 274, 210, 0), (12, 277, 221, 0), (12, 286, 222, 0), (12, 300, 225, 0), (12, 330, 229, 0), (12, 351, 226, 0), (12, 354, 228, 0), (12, 358, 227, 0), (12, 361, 230, 0), (12, 364, 231, 0), (12, 368, 232, 0), (12, 373, 224, 0), (12, 378, 237, 0), (12, 387, 242, 0), (12, 390, 233, 0), (12, 407, 248, 0), (12, 416, 254, 0), (12, 420, 253, 0), (12, 424, 256, 0), (12, 441, 260, 0), (12, 444, 261, 0), (12, 448, 262, 0), (12, 453, 268, 0), (12, 456, 270, 0), (12, 459, 269, 0), (12, 463, 275, 0), (12, 468, 278, 0), (13, 15, 117, 2), (13, 18, 185, 2), (13, 19, 118, 0), (13, 23, 192, 0), (13, 24, 119, 0), (13, 28, 193, 0), (13, 29, 120, 0), (13, 33, 222, 0), (13, 34, 121, 0), (13, 37, 223, 0), (13, 38, 126, 0), (13, 41, 234, 0), (13, 47, 235, 0), (13, 48, 186, 0), (13, 52, 127, 0), (13, 55, 236, 0), (13, 56, 128, 0), (13, 59, 238, 0), (13, 60, 129, 0), (13, 63, 239, 0), (13, 64, 130, 0), (13, 67, 240, 0), (13, 68, 131, 0), (13, 71, 241, 0), (13, 72, 132, 0), (13, 75, 243, 0), (13, 76, 133, 0), (13, 79, 244, 0), (13, 80, 134, 0), (13, 84, 245, 0), (13, 85, 135, 0), (13, 89, 246, 0), (13, 90, 136, 0), (13, 93, 247, 0), (13, 96, 137, 0), (13, 100, 249, 0), (13, 101, 140, 0), (13, 104, 250, 0), (13, 105, 141, 0), (13, 108, 251, 0), (13, 109, 146, 0), (13, 112, 252, 0), (13, 113, 162, 0), (13, 116, 255, 0), (13, 117, 163, 0), (13, 120, 257, 0), (13, 121, 164, 0), (13, 124, 258, 0), (13, 125, 167, 0), (13, 129, 259, 0), (13, 130, 168, 0), (13, 133, 263, 0), (13, 134, 169, 0), (13, 137, 264, 0), (13, 138, 170, 0), (13, 141, 265, 0), (13, 142, 148, 0), (13, 145, 266, 0), (13, 146, 147, 0), (13, 149, 267, 0), (13, 150, 151, 0), (13, 153, 271, 0), (13, 154, 152, 0), (13, 157, 272, 0), (13, 158, 155, 0), (13, 161, 273, 0), (13, 162, 156, 0), (13, 165, 274, 0), (13, 166, 157, 0), (13, 169, 276, 0), (13, 170, 158, 0), (13, 173, 277, 0), (13, 174, 159, 0), (13, 177, 279, 0), (13, 178, 171, 0), (13, 181, 280, 0), (13, 182, 172, 0), (13, 185, 281, 0), (13, 186, 166, 0), (13, 189, 282, 0), (13, 190, 142, 0), (13, 193, 283, 0), (13, 194, 143, 0), (13, 197, 284, 0), (13, 198, 173, 0), (13, 201, 285, 0), (16, 335, 294, 0), (16, 492, 293, 0), (16, 495, 296, 1), (16, 633, 292, 0), (16, 505, 289, 0), (16, 637, 297, 1), (16, 1059, 300, 1), (17, 9, 295, 1), (17, 88, 298, 1), (17, 95, 299, 1)]
def am_LP : List (Nat × Nat × Nat) := [(0, 1, 0), (0, 25, 6), (0, 36, 2), (0, 61, 4), (0, 65, 5), (1, 3, 0), (2, 3, 0), (2, 28, 6), (2, 45, 3), (3, 3, 0), (4, 3, 0), (4, 42, 1), (4, 55, 6), (5, 3, 0), (5, 99, 1), (6, 3, 0), (6, 36, 1), (6, 42, 2), (6, 78, 3), (7, 3, 0), (7, 49, 6), (8, 3, 0), (9, 3, 0), (10, 3, 0), (10, 55, 2), (10, 74, 1), (11, 1, 0), (11, 183, 6), (11, 301, 1), (12, 3, 0), (12, 152, 4), (12, 158, 5), (12, 303, 3), (12, 333, 1), (12, 335, 2), (17, 92, 2), (17, 38, 1)]
def am_LN : List (Nat × Nat × Nat) := [(1, 9, 1), (3, 9, 3), (4, 9, 8), (11, 7, 9), (11, 16, 4), (11, 25, 2), (11, 36, 3), (11, 43, 8), (11, 50, 5), (11, 68, 11), (11, 77, 10), (11, 86, 6), (11, 93, 7), (11, 57, 1), (13, 8, 12), (13, 16, 13)]
def am_LA : List (Nat × Nat × Nat) := [(4, 9, 105), (11, 57, 104), (11, 63, 106)]
def am_lfw (x : Nat × Nat × Nat) : Cond := .fieldLink (am_Rn x.1) x.2.1 (am_F (x.2.2 / 256 - 1) (x.2.2 / 4 % 64)).1 (am_F (x.2.2 / 256 - 1) (x.2.2 / 4 % 64)).2.1 (am_F (x.2.2 / 256 - 1) (x.2.2 / 4 % 64)).2.2.1
theorem am_LF_in : ∀ w ∈ am_LF.map am_lfw, w ∈ lw_g := lw_g_of (ps := [214, 215, 216, 217, 227, 230, 229, 147, 167, 172, 174, 175, 191, 194, 193, 177, 148, 169, 173, 296, 297, 298, 299, 300, 301, 303, 422, 423, 424, 426, 428, 430, 421, 343, 179, 347, 259, 264, 247, 454, 455, 456, 457, 458, 459, 453, 344, 180, 246, 250, 252, 254, 258, 262, 266, 268, 176, 168, 144, 145, 367, 369, 371, 373, 375, 376, 377, 378, 380, 382, 384, 386, 374, 346, 263, 342, 178, 260, 256, 348, 350, 341, 345, 255, 170, 248, 477, 478, 479, 480, 481, 482, 483, 484, 485, 486, 487, 488, 489, 490, 491, 492, 493, 494, 146, 192, 181, 228, 261, 171, 257, 265, 349, 269, 383, 253, 249, 302, 304, 267, 251, 381, 385, 368, 370, 372, 379, 387, 425, 427, 429, 431, 460, 1389, 1390, 1391, 1392, 1393, 1403, 1404, 1406, 1407, 1408, 1409, 1410, 1411, 1416, 1417, 1418, 1420, 1421, 1422, 1431, 1432, 1433, 1438, 1439, 1440, 1441, 1442, 1448, 1388, 1394, 1398, 1397, 1396, 1399, 1400, 1405, 1401, 1402, 1415, 1413, 1395, 1414, 1412, 1443, 1434, 1449, 1423, 1424, 1425, 1426, 1427, 1428, 1429, 1430, 1419, 1435, 1437, 1436, 1444, 1445, 1446, 1447]) (by decide +kernel) (by decide +kernel)
theorem am_LF_ok : am_LF.all (fun x => Nat.blt 0 (x.2.2 / 256) && Nat.blt (x.2.2 / 256 - 1) 13 && Nat.blt (x.2.2 / 4 % 64) (am_nf (x.2.2 / 256 - 1)) && Nat.beq (x.2.2 % 4) (am_kd (am_ty (x.2.2 / 256 - 1) (x.2.2 / 4 % 64)))) = true := by decide +kernel
def am_lcw (x : Nat × Nat × Int) : Cond := .constant (am_Rn x.1) x.2.1 (Int32.ofInt x.2.2)
theorem am_LC_in : ∀ w ∈ am_LC.map am_lcw, w ∈ lw_g := lw_g_of (ps := [793, 960, 961, 788, 1207, 838, 1138, 881, 1783, 1977, 1194, 1195, 1196]) (by decide +kernel) (by decide +kernel)
def am_llw (x : Nat × Nat × Int) : Cond := .constantLong (am_Rn x.1) x.2.1 (Int64.ofInt x.2.2)
theorem am_LL_in : ∀ w ∈ am_LL.map am_llw, w ∈ lw_g := lw_g_of (ps := [965, 966, 1027, 1028, 1728, 1729, 1600, 1834, 1835, 1836, 1837, 1788, 1838, 1839, 1752, 1761, 1782, 1858, 1859, 1860, 1869, 1870, 1911, 1940, 2018]) (by decide +kernel) (by decide +kernel)
def am_sfL : List (String × String × String) := [("TeaTrolley$Office", "RULES_UNTOLD", "[I"), ("TeaTrolley$Office", "TRAITS_UNTOLD", "[I"), ("TeaTrolley$OfficeText", "RULE_LEAST", "[I"), ("TeaTrolley$OfficeText", "RULE_MOST", "[I"), ("TeaTrolley$OfficeText", "ROOM_LEAST", "[I"), ("TeaTrolley$OfficeText", "ROOM_MOST", "[I"), ("TeaTrolley$Sightings", "ORDERS", "[I")]
def am_sf (a : Nat) : String × String × String := if a = 1 then ("java/lang/String", "COMPACT_STRINGS", "Z") else if a = 7000 then ("jdk/internal/util/Preconditions", "SIOOBE_FORMATTER", "Ljava/util/function/BiFunction;") else am_sfL.getD (a - 5000) ("", "", "")
def am_lgw (x : Nat × Nat × Nat) : Cond := .fieldLink (am_Rn x.1) x.2.1 (am_sf x.2.2).1 (am_sf x.2.2).2.1 (am_sf x.2.2).2.2
theorem am_LG_in : ∀ w ∈ am_LG.map am_lgw, w ∈ lw_g := lw_g_of (ps := [567, 695, 585, 587, 698, 700, 1271, 339, 640]) (by decide +kernel) (by decide +kernel)
def am_lsw (x : Nat × Nat × Nat) : Cond := .fieldLink (am_Rn x.1) x.2.1 "java/lang/String" (if x.2.2 = 23042 then "value" else "coder") (if x.2.2 = 23042 then "[B" else "B")
theorem am_LFs_in : ∀ w ∈ am_LFs.map am_lsw, w ∈ lw_g := lw_g_of (ps := [2036, 2037]) (by decide +kernel) (by decide +kernel)
theorem am_cls_in : ∀ w ∈ am_cls.flatMap (fun r => u_ws r.1 r.2.1 r.2.2), w ∈ lw_g := lw_g_of (ps := [218, 220, 222, 224, 231, 233, 235, 182, 184, 186, 188, 195, 197, 199, 305, 307, 309, 311, 313, 315, 317, 432, 434, 436, 438, 440, 442, 444, 461, 463, 465, 467, 469, 471, 473, 270, 272, 274, 276, 278, 280, 282, 284, 149, 151, 388, 390, 392, 394, 396, 398, 400, 402, 404, 406, 408, 410, 412, 351, 353, 355, 357, 495, 497, 499, 501, 503, 505, 507, 509, 511, 513, 515, 517, 519, 521, 523, 525, 527, 529, 1450, 1452, 1454, 1456, 1458, 1460, 1462, 1464, 1466, 1468, 1470, 1472, 1474, 1476, 1478, 1480, 1482, 1484, 1486, 1488, 1490, 1492, 1494, 1496, 1498, 1500, 1502, 1504, 1506, 1508, 1510, 1512, 1514, 1516, 1518, 1520, 1522, 1524, 1526, 1528, 1530, 1532, 1534, 1536, 1538, 1540, 1542, 1544, 1546, 1548, 1550, 1552, 1554, 1556, 1558, 1560, 1562, 1564, 1566, 1568, 1570, 1572]) (by decide +kernel) (by decide +kernel)
theorem am_ins_in : ∀ w ∈ am_cls.map (fun r => Cond.instantiable r.1 r.2.2), w ∈ lw_g := lw_g_of (ps := [209, 203, 162, 156, 288, 416, 448, 241, 139, 362, 325, 131, 1381]) (by decide +kernel) (by decide +kernel)
theorem am_ini_in : ∀ w ∈ am_cls.map (fun r => Cond.initialized r.1), w ∈ lw_g := lw_g_of (ps := [110, 109, 108, 107, 112, 116, 117, 111, 106, 115, 113, 105, 118]) (by decide +kernel) (by decide +kernel)
def am_lnw (x : Nat × Nat × Nat) : Cond := .classLink (am_Rn x.1) x.2.1 (am_cls.getD (x.2.2 - 1) ("", fun _ => ("", "", "", false), 0)).1
theorem am_LN_in : ∀ w ∈ am_LN.map am_lnw, w ∈ lw_g := lw_g_of (ps := [208, 161, 293, 138, 155, 202, 238, 240, 287, 324, 361, 415, 447, 320, 130, 1380]) (by decide +kernel) (by decide +kernel)
def am_law (x : Nat × Nat × Nat) : Cond := .classLink (am_Rn x.1) x.2.1 (if x.2.2 = 105 then "TeaTrolley$State" else if x.2.2 = 104 then "TeaTrolley$Law" else "[[I")
theorem am_LA_in : ∀ w ∈ am_LA.map am_law, w ∈ lw_g := lw_g_of (ps := [293, 320, 322]) (by decide +kernel) (by decide +kernel)
def am_pn : List MethodName := [objectInit, Lib.Math.min.name, Lib.Math.max.name, Lib.Math.abs.name, Lib.MathLoose.min_long.x, Lib.MathLoose.max_long.x, arraycopyName]
def am_lpw (x : Nat × Nat × Nat) : Cond := .methodLink (am_Rn x.1) x.2.1 (am_pn.getD x.2.2 objectInit)
theorem am_LP_in : ∀ w ∈ am_LP.map am_lpw, w ∈ lw_g := lw_g_of (ps := [213, 851, 952, 967, 970, 207, 166, 569, 822, 160, 292, 915, 1061, 420, 1190, 452, 1245, 1246, 1294, 245, 914, 143, 366, 329, 942, 983, 135, 856, 993, 1385, 1730, 1731, 1797, 1840, 1841, 613, 616]) (by decide +kernel) (by decide +kernel)
end
