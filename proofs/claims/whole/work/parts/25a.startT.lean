/-! the start: words of the tables and of the premises, by their places; printed by wip/whole/p25.py -/
def st_ws : List Cond := [.laysStatic "TeaTrolley$Office" "RULES_UNTOLD" "[I", .laysStatic "TeaTrolley$Office" "TRAITS_UNTOLD" "[I", .laysStatic "TeaTrolley$OfficeText" "RULE_LEAST" "[I", .laysStatic "TeaTrolley$OfficeText" "RULE_MOST" "[I", .laysStatic "TeaTrolley$OfficeText" "ROOM_LEAST" "[I", .laysStatic "TeaTrolley$OfficeText" "ROOM_MOST" "[I", .laysStatic "TeaTrolley$Sightings" "ORDERS" "[I", .laysStatic "java/lang/String" "COMPACT_STRINGS" "Z", .laysStatic "jdk/internal/util/Preconditions" "SIOOBE_FORMATTER" "Ljava/util/function/BiFunction;", .laysStatic "java/lang/Throwable" "UNASSIGNED_STACK" "[Ljava/lang/StackTraceElement;", .laysStatic "java/lang/Throwable" "SUPPRESSED_SENTINEL" "Ljava/util/List;", .initialized "TeaTrolley$Office", .initialized "TeaTrolley$OfficeText", .initialized "TeaTrolley$Sightings", .initialized "java/lang/String", .initialized "jdk/internal/util/Preconditions", .initialized "java/lang/Throwable", .stringRef "TeaTrolley" 210 "no such room or trait", .stringRef "TeaTrolley$LawText" 99 "mhfdkn", .stringRef "TeaTrolley$OfficeText" 54 "hcpk", .stringRef "TeaTrolley$OfficeText" 73 "fxwns", .stringRef "TeaTrolley$Ways" 17 "mhfdkn", .stringRef "TeaTrolleyModel" 255 "hcpk", .stringRef "TeaTrolleyModel" 26 "y", .stringRef "TeaTrolleyModel" 261 "fxwns", .stringRef "TeaTrolleyModel" 32 "mhfdkn", .arrayOver (.array .int), .arrayOver (.object "TeaTrolley$Law"), .arrayOver (.object "TeaTrolley$State"), .arrayClass .int, .arrayClass .long, .arrayClass .byte, .arrayClass .boolean, .declares (Bundle.initS "java/lang/RuntimeException"), .declares (Bundle.initS "java/lang/Exception"), .declares (Bundle.initS "java/lang/Throwable"), .castable "java/util/NoSuchElementException" "java/util/NoSuchElementException"]
theorem st_of {L : List Cond} {ps : List (Nat × Nat)} (h : L = ps.filterMap (fun q => (am_tb q.1)[q.2]?)) : ∀ w ∈ L, w ∈ lw_tbl := by
  intro w hw
  rw [h] at hw
  obtain ⟨i, -, hi⟩ := List.mem_filterMap.mp hw
  exact am_tb_in _ _ (List.mem_of_getElem? hi)
theorem st_in : ∀ w ∈ st_ws, w ∈ lw_tbl := st_of (ps := [(2, 224), (3, 112), (3, 2), (3, 4), (3, 115), (3, 117), (5, 208), (1, 236), (3, 57), (6, 38), (6, 40), (1, 4), (1, 3), (1, 13), (1, 10), (1, 19), (1, 21), (6, 50), (3, 168), (3, 0), (3, 113), (1, 226), (7, 83), (6, 82), (7, 133), (6, 83), (1, 219), (1, 217), (1, 190), (1, 50), (7, 31), (2, 16), (7, 32), (6, 15), (6, 17), (6, 19), (6, 13)]) (by decide +kernel)
theorem st_nest : ∀ w ∈ (am_LM.filter (fun x => Nat.beq x.2.2.2 3)).map (fun x => Cond.methodLinkNest (am_Rn x.1) x.2.1 (am_mt x.2.2.1).1 "TeaTrolley"), w ∈ lw_tbl := st_of (ps := [(4, 138), (3, 87), (5, 120), (5, 202), (4, 108), (4, 149)]) (by decide +kernel)
theorem st_w {args : Array Value} {s : State} (hts : ∀ w ∈ lw_tbl, w.before args s = true) (i : Nat) {w : Cond} (h : st_ws[i]? = some w) : w.before args s = true := hts w (st_in w (List.mem_of_getElem? h))
def nw_F : List Cond := flatC (Jvm.Cond.and given_1 narrow_1)
theorem nw_of {L : List Cond} {ps : List Nat} (h : L = ps.filterMap (fun q => nw_F[q]?)) : ∀ w ∈ L, w ∈ nw_F := by
  intro w hw
  rw [h] at hw
  obtain ⟨i, -, hi⟩ := List.mem_filterMap.mp hw
  exact List.mem_of_getElem? hi
def sa_tm (i : Nat) : Term := .static (am_sfL.getD i ("", "", "")).1 (am_sfL.getD i ("", "", "")).2.1 (am_sfL.getD i ("", "", "")).2.2
def sa_v : List (List Int32) := [[60, 1, 1, 20], [0, 1, 2, 30, 1], [10, 0, 1, 1], [99, 9, 5, 60], [0, 0, 0, 0, 0], [3, 9, 9, 99, 9], [1, 1, 2, 6, 24, 120, 720, 5040, 40320]]
def tx_tm (i : Nat) : Term := match i with
  | 0 => .string "TeaTrolleyModel" 26
  | 1 => .string "TeaTrolley$Ways" 17
  | 2 => .string "TeaTrolley$OfficeText" 54
  | _ => .string "TeaTrolley$OfficeText" 73
def tx_v : List (List Int32) := [[121], [109, 104, 102, 100, 107, 110], [104, 99, 112, 107], [102, 120, 119, 110, 115]]
def sa_ws (tm : Term) (ty : FieldType) (vs : List Int32) : List Cond := .arrayOf tm ty :: .eq (.length tm) (.int (Int32.ofNat vs.length)) :: (List.range vs.length).map fun j => .eq (.elem tm (.int (Int32.ofNat j))) (.int (vs.getD j 0))
def tx_ws (t : Term) (vs : List Int32) : List Cond := .exactly t "java/lang/String" :: .eq (.field t "java/lang/String" "coder" "B") (.int 0) :: sa_ws (.field t "java/lang/String" "value" "[B") .byte vs
theorem sa_in : ∀ w ∈ (List.range 7).flatMap (fun i => sa_ws (sa_tm i) .int (sa_v.getD i [])), w ∈ nw_F := nw_of (ps := [6, 7, 8, 9, 10, 11, 31, 32, 33, 34, 35, 36, 37, 13, 14, 15, 16, 17, 18, 20, 21, 22, 23, 24, 25, 39, 40, 41, 42, 43, 44, 45, 47, 48, 49, 50, 51, 52, 53, 55, 56, 57, 58, 59, 60, 61, 62, 63, 64, 65]) (by decide +kernel)
theorem tx_in : ∀ w ∈ (List.range 4).flatMap (fun i => tx_ws (tx_tm i) (tx_v.getD i [])), w ∈ nw_F := nw_of (ps := [183, 184, 185, 186, 187, 111, 112, 113, 114, 115, 116, 117, 118, 119, 120, 121, 122, 123, 124, 125, 126, 127, 128, 130, 131, 132, 133, 134, 135, 136, 137, 138]) (by decide +kernel)
def nw_ws : List Cond := [.eq (.static "java/lang/String" "COMPACT_STRINGS" "Z") (.int 1), .isRef (.static "jdk/internal/util/Preconditions" "SIOOBE_FORMATTER" "Ljava/util/function/BiFunction;"), .isRef (.static "java/lang/Throwable" "UNASSIGNED_STACK" "[Ljava/lang/StackTraceElement;"), .isRef (.static "java/lang/Throwable" "SUPPRESSED_SENTINEL" "Ljava/util/List;"), .exactly (.string "TeaTrolley" 210) "java/lang/String", .eq (.string "TeaTrolley$Ways" 17) (.string "TeaTrolley$LawText" 99), .eq (.string "TeaTrolley$Ways" 17) (.string "TeaTrolleyModel" 32), .eq (.string "TeaTrolley$OfficeText" 54) (.string "TeaTrolleyModel" 255), .eq (.string "TeaTrolley$OfficeText" 73) (.string "TeaTrolleyModel" 261)]
theorem nw_in : ∀ w ∈ nw_ws, w ∈ nw_F := nw_of (ps := [4, 26, 66, 67, 154, 151, 203, 218, 235]) (by decide +kernel)
theorem nw_w {args : Array Value} {s : State} (hs : ∀ w ∈ nw_F, w.before args s = true) (i : Nat) {w : Cond} (h : nw_ws[i]? = some w) : w.before args s = true := hs w (nw_in w (List.mem_of_getElem? h))
