section
-- ===== PART A: goes FIRST, ahead of the names: the tables' words, and 'selects' of the private methods out of them =====
/-- a private method of a class that the tables say can be made, by its rows of tables_1 -/
def lw_okq (q : MethodName × Nat) : Prop := (q.1.cls ≠ "java/lang/invoke/MethodHandle" ∧ q.1.cls ≠ "java/lang/invoke/VarHandle") ∧ Cond.instantiable q.1.cls q.2 ∈ tables_1 ∧ Cond.privateMethod q.1 ∈ tables_1 ∧ Cond.instanceMethod q.1 ∈ tables_1
theorem lw_p0 : lw_okq (⟨"LineDealer$Dealing", "chooseHost", "(II)I"⟩, 4) := ⟨⟨by decide +kernel, by decide +kernel⟩, List.mem_of_getElem? (i := 98) (by decide +kernel), List.mem_of_getElem? (i := 249) (by decide +kernel), List.mem_of_getElem? (i := 250) (by decide +kernel)⟩
theorem lw_p1 : lw_okq (⟨"LineDealer$Dealing", "scoreOf", "(IIII)I"⟩, 4) := ⟨⟨by decide +kernel, by decide +kernel⟩, List.mem_of_getElem? (i := 98) (by decide +kernel), List.mem_of_getElem? (i := 262) (by decide +kernel), List.mem_of_getElem? (i := 263) (by decide +kernel)⟩
theorem lw_p2 : lw_okq (⟨"LineDealer$Dealing", "scoreOfCopies", "(III)I"⟩, 4) := ⟨⟨by decide +kernel, by decide +kernel⟩, List.mem_of_getElem? (i := 98) (by decide +kernel), List.mem_of_getElem? (i := 266) (by decide +kernel), List.mem_of_getElem? (i := 267) (by decide +kernel)⟩
theorem lw_p3 : lw_okq (⟨"LineDealer$Net", "putEnd", "(II)V"⟩, 11) := ⟨⟨by decide +kernel, by decide +kernel⟩, List.mem_of_getElem? (i := 21) (by decide +kernel), List.mem_of_getElem? (i := 282) (by decide +kernel), List.mem_of_getElem? (i := 283) (by decide +kernel)⟩
theorem lw_p4 : lw_okq (⟨"LineDealer", "keepWindow", "()V"⟩, 9) := ⟨⟨by decide +kernel, by decide +kernel⟩, List.mem_of_getElem? (i := 13) (by decide +kernel), List.mem_of_getElem? (i := 286) (by decide +kernel), List.mem_of_getElem? (i := 287) (by decide +kernel)⟩
theorem lw_p5 : lw_okq (⟨"LineDealer$Net", "takeEnd", "(II)V"⟩, 11) := ⟨⟨by decide +kernel, by decide +kernel⟩, List.mem_of_getElem? (i := 21) (by decide +kernel), List.mem_of_getElem? (i := 298) (by decide +kernel), List.mem_of_getElem? (i := 299) (by decide +kernel)⟩
theorem lw_p6 : lw_okq (⟨"LineDealer", "makeBetterMove", "()Z"⟩, 9) := ⟨⟨by decide +kernel, by decide +kernel⟩, List.mem_of_getElem? (i := 13) (by decide +kernel), List.mem_of_getElem? (i := 325) (by decide +kernel), List.mem_of_getElem? (i := 326) (by decide +kernel)⟩
theorem lw_p7 : lw_okq (⟨"LineDealer$MoveSearch", "weighMovesOf", "(II)V"⟩, 5) := ⟨⟨by decide +kernel, by decide +kernel⟩, List.mem_of_getElem? (i := 120) (by decide +kernel), List.mem_of_getElem? (i := 335) (by decide +kernel), List.mem_of_getElem? (i := 336) (by decide +kernel)⟩
theorem lw_p8 : lw_okq (⟨"LineDealer$MoveSearch", "keepIfBetter", "(IIII)V"⟩, 5) := ⟨⟨by decide +kernel, by decide +kernel⟩, List.mem_of_getElem? (i := 120) (by decide +kernel), List.mem_of_getElem? (i := 344) (by decide +kernel), List.mem_of_getElem? (i := 345) (by decide +kernel)⟩
theorem lw_p9 : lw_okq (⟨"LineDealer$BestSearch", "collectLines", "()V"⟩, 7) := ⟨⟨by decide +kernel, by decide +kernel⟩, List.mem_of_getElem? (i := 144) (by decide +kernel), List.mem_of_getElem? (i := 397) (by decide +kernel), List.mem_of_getElem? (i := 398) (by decide +kernel)⟩
theorem lw_p10 : lw_okq (⟨"LineDealer$BestSearch", "dealFrom", "(III)V"⟩, 7) := ⟨⟨by decide +kernel, by decide +kernel⟩, List.mem_of_getElem? (i := 144) (by decide +kernel), List.mem_of_getElem? (i := 402) (by decide +kernel), List.mem_of_getElem? (i := 403) (by decide +kernel)⟩
theorem lw_p11 : lw_okq (⟨"LineDealer$BestSearch", "tryHost", "(IIII)V"⟩, 7) := ⟨⟨by decide +kernel, by decide +kernel⟩, List.mem_of_getElem? (i := 144) (by decide +kernel), List.mem_of_getElem? (i := 408) (by decide +kernel), List.mem_of_getElem? (i := 409) (by decide +kernel)⟩
theorem lw_p12 : lw_okq (⟨"LineDealer$Spreading", "goOneRound", "()Z"⟩, 4) := ⟨⟨by decide +kernel, by decide +kernel⟩, List.mem_of_getElem? (i := 172) (by decide +kernel), List.mem_of_getElem? (i := 420) (by decide +kernel), List.mem_of_getElem? (i := 421) (by decide +kernel)⟩
theorem lw_p13 : lw_okq (⟨"LineDealer$Spreading", "lowerTo", "(II)Z"⟩, 4) := ⟨⟨by decide +kernel, by decide +kernel⟩, List.mem_of_getElem? (i := 172) (by decide +kernel), List.mem_of_getElem? (i := 428) (by decide +kernel), List.mem_of_getElem? (i := 429) (by decide +kernel)⟩
theorem lw_p14 : lw_okq (⟨"LineDealer$Mastering", "leastMasterFor", "(I)I"⟩, 2) := ⟨⟨by decide +kernel, by decide +kernel⟩, List.mem_of_getElem? (i := 193) (by decide +kernel), List.mem_of_getElem? (i := 459) (by decide +kernel), List.mem_of_getElem? (i := 460) (by decide +kernel)⟩
theorem lw_p15 : lw_okq (⟨"LineDealerModel", "deals", "(I)I"⟩, 19) := ⟨⟨by decide +kernel, by decide +kernel⟩, List.mem_of_getElem? (i := 478) (by decide +kernel), List.mem_of_getElem? (i := 553) (by decide +kernel), List.mem_of_getElem? (i := 554) (by decide +kernel)⟩
def lw_privs_1 : List (MethodName × Nat) := [(⟨"LineDealer$Dealing", "chooseHost", "(II)I"⟩, 4), (⟨"LineDealer$Dealing", "scoreOf", "(IIII)I"⟩, 4), (⟨"LineDealer$Dealing", "scoreOfCopies", "(III)I"⟩, 4), (⟨"LineDealer$Net", "putEnd", "(II)V"⟩, 11), (⟨"LineDealer", "keepWindow", "()V"⟩, 9), (⟨"LineDealer$Net", "takeEnd", "(II)V"⟩, 11), (⟨"LineDealer", "makeBetterMove", "()Z"⟩, 9), (⟨"LineDealer$MoveSearch", "weighMovesOf", "(II)V"⟩, 5), (⟨"LineDealer$MoveSearch", "keepIfBetter", "(IIII)V"⟩, 5), (⟨"LineDealer$BestSearch", "collectLines", "()V"⟩, 7), (⟨"LineDealer$BestSearch", "dealFrom", "(III)V"⟩, 7), (⟨"LineDealer$BestSearch", "tryHost", "(IIII)V"⟩, 7), (⟨"LineDealer$Spreading", "goOneRound", "()Z"⟩, 4), (⟨"LineDealer$Spreading", "lowerTo", "(II)Z"⟩, 4), (⟨"LineDealer$Mastering", "leastMasterFor", "(I)I"⟩, 2), (⟨"LineDealerModel", "deals", "(I)I"⟩, 19)]
theorem lw_r1 : ∀ q ∈ lw_privs_1, lw_okq q := List.forall_mem_cons.mpr ⟨lw_p0, List.forall_mem_cons.mpr ⟨lw_p1, List.forall_mem_cons.mpr ⟨lw_p2, List.forall_mem_cons.mpr ⟨lw_p3, List.forall_mem_cons.mpr ⟨lw_p4, List.forall_mem_cons.mpr ⟨lw_p5, List.forall_mem_cons.mpr ⟨lw_p6, List.forall_mem_cons.mpr ⟨lw_p7, List.forall_mem_cons.mpr ⟨lw_p8, List.forall_mem_cons.mpr ⟨lw_p9, List.forall_mem_cons.mpr ⟨lw_p10, List.forall_mem_cons.mpr ⟨lw_p11, List.forall_mem_cons.mpr ⟨lw_p12, List.forall_mem_cons.mpr ⟨lw_p13, List.forall_mem_cons.mpr ⟨lw_p14, List.forall_mem_cons.mpr ⟨lw_p15, fun _ h => absurd h List.not_mem_nil⟩⟩⟩⟩⟩⟩⟩⟩⟩⟩⟩⟩⟩⟩⟩⟩
theorem lw_p16 : lw_okq (⟨"LineDealerModel", "roomFor", "(I)I"⟩, 19) := ⟨⟨by decide +kernel, by decide +kernel⟩, List.mem_of_getElem? (i := 478) (by decide +kernel), List.mem_of_getElem? (i := 557) (by decide +kernel), List.mem_of_getElem? (i := 558) (by decide +kernel)⟩
theorem lw_p17 : lw_okq (⟨"LineDealerModel", "scoreOf", "(III)I"⟩, 19) := ⟨⟨by decide +kernel, by decide +kernel⟩, List.mem_of_getElem? (i := 478) (by decide +kernel), List.mem_of_getElem? (i := 561) (by decide +kernel), List.mem_of_getElem? (i := 562) (by decide +kernel)⟩
theorem lw_p18 : lw_okq (⟨"LineDealerModel", "greatest", "()I"⟩, 19) := ⟨⟨by decide +kernel, by decide +kernel⟩, List.mem_of_getElem? (i := 478) (by decide +kernel), List.mem_of_getElem? (i := 565) (by decide +kernel), List.mem_of_getElem? (i := 566) (by decide +kernel)⟩
theorem lw_p19 : lw_okq (⟨"LineDealerModel", "puts", "(III)V"⟩, 19) := ⟨⟨by decide +kernel, by decide +kernel⟩, List.mem_of_getElem? (i := 478) (by decide +kernel), List.mem_of_getElem? (i := 573) (by decide +kernel), List.mem_of_getElem? (i := 574) (by decide +kernel)⟩
theorem lw_p20 : lw_okq (⟨"LineDealerModel", "shuts", "()V"⟩, 19) := ⟨⟨by decide +kernel, by decide +kernel⟩, List.mem_of_getElem? (i := 478) (by decide +kernel), List.mem_of_getElem? (i := 577) (by decide +kernel), List.mem_of_getElem? (i := 578) (by decide +kernel)⟩
theorem lw_p21 : lw_okq (⟨"LineDealerModel", "isLive", "(I)Z"⟩, 19) := ⟨⟨by decide +kernel, by decide +kernel⟩, List.mem_of_getElem? (i := 478) (by decide +kernel), List.mem_of_getElem? (i := 597) (by decide +kernel), List.mem_of_getElem? (i := 598) (by decide +kernel)⟩
theorem lw_p22 : lw_okq (⟨"LineDealerModel", "moves", "()Z"⟩, 19) := ⟨⟨by decide +kernel, by decide +kernel⟩, List.mem_of_getElem? (i := 478) (by decide +kernel), List.mem_of_getElem? (i := 605) (by decide +kernel), List.mem_of_getElem? (i := 606) (by decide +kernel)⟩
theorem lw_p23 : lw_okq (⟨"LineDealerModel", "change", "(III)I"⟩, 19) := ⟨⟨by decide +kernel, by decide +kernel⟩, List.mem_of_getElem? (i := 478) (by decide +kernel), List.mem_of_getElem? (i := 613) (by decide +kernel), List.mem_of_getElem? (i := 614) (by decide +kernel)⟩
theorem lw_p24 : lw_okq (⟨"LineDealerModel", "copiesOf", "(I)I"⟩, 19) := ⟨⟨by decide +kernel, by decide +kernel⟩, List.mem_of_getElem? (i := 478) (by decide +kernel), List.mem_of_getElem? (i := 641) (by decide +kernel), List.mem_of_getElem? (i := 642) (by decide +kernel)⟩
theorem lw_p25 : lw_okq (⟨"LineDealerModel", "dealt", "(I)I"⟩, 19) := ⟨⟨by decide +kernel, by decide +kernel⟩, List.mem_of_getElem? (i := 478) (by decide +kernel), List.mem_of_getElem? (i := 651) (by decide +kernel), List.mem_of_getElem? (i := 652) (by decide +kernel)⟩
theorem lw_p26 : lw_okq (⟨"LineDealerModel", "runs", "()I"⟩, 19) := ⟨⟨by decide +kernel, by decide +kernel⟩, List.mem_of_getElem? (i := 478) (by decide +kernel), List.mem_of_getElem? (i := 659) (by decide +kernel), List.mem_of_getElem? (i := 660) (by decide +kernel)⟩
def lw_privs_2 : List (MethodName × Nat) := [(⟨"LineDealerModel", "roomFor", "(I)I"⟩, 19), (⟨"LineDealerModel", "scoreOf", "(III)I"⟩, 19), (⟨"LineDealerModel", "greatest", "()I"⟩, 19), (⟨"LineDealerModel", "puts", "(III)V"⟩, 19), (⟨"LineDealerModel", "shuts", "()V"⟩, 19), (⟨"LineDealerModel", "isLive", "(I)Z"⟩, 19), (⟨"LineDealerModel", "moves", "()Z"⟩, 19), (⟨"LineDealerModel", "change", "(III)I"⟩, 19), (⟨"LineDealerModel", "copiesOf", "(I)I"⟩, 19), (⟨"LineDealerModel", "dealt", "(I)I"⟩, 19), (⟨"LineDealerModel", "runs", "()I"⟩, 19)]
theorem lw_r2 : ∀ q ∈ lw_privs_2, lw_okq q := List.forall_mem_cons.mpr ⟨lw_p16, List.forall_mem_cons.mpr ⟨lw_p17, List.forall_mem_cons.mpr ⟨lw_p18, List.forall_mem_cons.mpr ⟨lw_p19, List.forall_mem_cons.mpr ⟨lw_p20, List.forall_mem_cons.mpr ⟨lw_p21, List.forall_mem_cons.mpr ⟨lw_p22, List.forall_mem_cons.mpr ⟨lw_p23, List.forall_mem_cons.mpr ⟨lw_p24, List.forall_mem_cons.mpr ⟨lw_p25, List.forall_mem_cons.mpr ⟨lw_p26, fun _ h => absurd h List.not_mem_nil⟩⟩⟩⟩⟩⟩⟩⟩⟩⟩⟩
def lw_privs : List (MethodName × Nat) := lw_privs_1 ++ (lw_privs_2)
def lw_tbl : List Cond := k2_sels lw_privs ++ tables_1
theorem lw_privs_ok : ∀ q ∈ lw_privs, lw_okq q := by
  show ∀ q ∈ lw_privs_1 ++ (lw_privs_2), lw_okq q
  exact List.forall_mem_append.mpr ⟨lw_r1, lw_r2⟩
end
section
def RX0 : String := "LineDealer$BestSearch"
def TX0 : u_T := fun k => match k with
  | 0 => ("LineDealer$BestSearch", "net", "LLineDealer$Net;", true)
  | 1 => ("LineDealer$BestSearch", "lines", "[I", true)
  | 2 => ("LineDealer$BestSearch", "tryLoads", "[I", true)
  | 3 => ("LineDealer$BestSearch", "tryBits", "[I", true)
  | 4 => ("LineDealer$BestSearch", "size", "I", false)
  | 5 => ("LineDealer$BestSearch", "limit", "I", false)
  | _ => ("LineDealer$BestSearch", "fewest", "I", false)
def tyX0 : Nat → FieldType := fun k => match k with
  | 0 => .object "LineDealer$Net"
  | 1 => .array .int
  | 2 => .array .int
  | 3 => .array .int
  | 4 => .int
  | 5 => .int
  | _ => .int
theorem nmX0 : ∀ a, a < 7 → ∀ b, b < 7 → a ≠ b → (TX0 a).2.1 ≠ (TX0 b).2.1 := by decide +kernel
theorem tyX0_ok : ∀ k, k < 7 → parseFieldDescriptor (TX0 k).2.2.1 = some (tyX0 k) := by decide +kernel
abbrev cX0_init : ByteArray := prog_2_method_1_code
def yX0_init : MethodName := ⟨RX0, "<init>", "(LLineDealer$Net;)V"⟩
abbrev cX0_fewestCopies : ByteArray := prog_2_method_2_code
def yX0_fewestCopies : MethodName := ⟨RX0, "fewestCopies", "(I)I"⟩
abbrev cX0_collectLines : ByteArray := prog_2_method_3_code
def yX0_collectLines : MethodName := ⟨RX0, "collectLines", "()V"⟩
abbrev cX0_dealFrom : ByteArray := prog_2_method_4_code
def yX0_dealFrom : MethodName := ⟨RX0, "dealFrom", "(III)V"⟩
abbrev cX0_tryHost : ByteArray := prog_2_method_5_code
def yX0_tryHost : MethodName := ⟨RX0, "tryHost", "(IIII)V"⟩
def RX1 : String := "LineDealer$Dealing"
def TX1 : u_T := fun k => match k with
  | 0 => ("LineDealer$Dealing", "net", "LLineDealer$Net;", true)
  | 1 => ("LineDealer$Dealing", "ruleNow", "I", false)
  | 2 => ("LineDealer$Dealing", "slack", "I", false)
  | _ => ("LineDealer$Dealing", "lean", "I", false)
def tyX1 : Nat → FieldType := fun k => match k with
  | 0 => .object "LineDealer$Net"
  | 1 => .int
  | 2 => .int
  | _ => .int
theorem nmX1 : ∀ a, a < 4 → ∀ b, b < 4 → a ≠ b → (TX1 a).2.1 ≠ (TX1 b).2.1 := by decide +kernel
theorem tyX1_ok : ∀ k, k < 4 → parseFieldDescriptor (TX1 k).2.2.1 = some (tyX1 k) := by decide +kernel
abbrev cX1_init : ByteArray := prog_3_method_1_code
def yX1_init : MethodName := ⟨RX1, "<init>", "(LLineDealer$Net;)V"⟩
abbrev cX1_roomFor : ByteArray := prog_3_method_2_code
def yX1_roomFor : MethodName := ⟨RX1, "roomFor", "(I)I"⟩
abbrev cX1_dealLine : ByteArray := prog_3_method_3_code
def yX1_dealLine : MethodName := ⟨RX1, "dealLine", "(I)I"⟩
abbrev cX1_chooseHost : ByteArray := prog_3_method_4_code
def yX1_chooseHost : MethodName := ⟨RX1, "chooseHost", "(II)I"⟩
abbrev cX1_scoreOf : ByteArray := prog_3_method_5_code
def yX1_scoreOf : MethodName := ⟨RX1, "scoreOf", "(IIII)I"⟩
abbrev cX1_scoreOfCopies : ByteArray := prog_3_method_6_code
def yX1_scoreOfCopies : MethodName := ⟨RX1, "scoreOfCopies", "(III)I"⟩
def RX2 : String := "LineDealer$Mastering"
def TX2 : u_T := fun k => match k with
  | 0 => ("LineDealer$Mastering", "net", "LLineDealer$Net;", true)
  | _ => ("LineDealer$Mastering", "mastered", "[I", true)
def tyX2 : Nat → FieldType := fun k => match k with
  | 0 => .object "LineDealer$Net"
  | _ => .array .int
theorem nmX2 : ∀ a, a < 2 → ∀ b, b < 2 → a ≠ b → (TX2 a).2.1 ≠ (TX2 b).2.1 := by decide +kernel
theorem tyX2_ok : ∀ k, k < 2 → parseFieldDescriptor (TX2 k).2.2.1 = some (tyX2 k) := by decide +kernel
abbrev cX2_init : ByteArray := prog_4_method_1_code
def yX2_init : MethodName := ⟨RX2, "<init>", "(LLineDealer$Net;)V"⟩
abbrev cX2_masterOf : ByteArray := prog_4_method_2_code
def yX2_masterOf : MethodName := ⟨RX2, "masterOf", "(I)I"⟩
abbrev cX2_leastMasterFor : ByteArray := prog_4_method_3_code
def yX2_leastMasterFor : MethodName := ⟨RX2, "leastMasterFor", "(I)I"⟩
def RX3 : String := "LineDealer$MoveSearch"
def TX3 : u_T := fun k => match k with
  | 0 => ("LineDealer$MoveSearch", "net", "LLineDealer$Net;", true)
  | 1 => ("LineDealer$MoveSearch", "chosenLine", "I", false)
  | 2 => ("LineDealer$MoveSearch", "chosenHost", "I", false)
  | 3 => ("LineDealer$MoveSearch", "copiesChange", "I", false)
  | _ => ("LineDealer$MoveSearch", "squaresChange", "I", false)
def tyX3 : Nat → FieldType := fun k => match k with
  | 0 => .object "LineDealer$Net"
  | 1 => .int
  | 2 => .int
  | 3 => .int
  | _ => .int
theorem nmX3 : ∀ a, a < 5 → ∀ b, b < 5 → a ≠ b → (TX3 a).2.1 ≠ (TX3 b).2.1 := by decide +kernel
theorem tyX3_ok : ∀ k, k < 5 → parseFieldDescriptor (TX3 k).2.2.1 = some (tyX3 k) := by decide +kernel
abbrev cX3_init : ByteArray := prog_5_method_1_code
def yX3_init : MethodName := ⟨RX3, "<init>", "(LLineDealer$Net;)V"⟩
abbrev cX3_findMove : ByteArray := prog_5_method_2_code
def yX3_findMove : MethodName := ⟨RX3, "findMove", "(I)Z"⟩
abbrev cX3_weighMovesOf : ByteArray := prog_5_method_3_code
def yX3_weighMovesOf : MethodName := ⟨RX3, "weighMovesOf", "(II)V"⟩
abbrev cX3_keepIfBetter : ByteArray := prog_5_method_4_code
def yX3_keepIfBetter : MethodName := ⟨RX3, "keepIfBetter", "(IIII)V"⟩
def RX4 : String := "LineDealer$Net"
def TX4 : u_T := fun k => match k with
  | 0 => ("LineDealer$Net", "firstEnd", "[I", true)
  | 1 => ("LineDealer$Net", "secondEnd", "[I", true)
  | 2 => ("LineDealer$Net", "hostOf", "[I", true)
  | 3 => ("LineDealer$Net", "loads", "[I", true)
  | 4 => ("LineDealer$Net", "degrees", "[I", true)
  | 5 => ("LineDealer$Net", "copyBits", "[I", true)
  | 6 => ("LineDealer$Net", "linesAt", "[I", true)
  | 7 => ("LineDealer$Net", "hosts", "I", false)
  | 8 => ("LineDealer$Net", "came", "I", false)
  | 9 => ("LineDealer$Net", "live", "I", false)
  | _ => ("LineDealer$Net", "allCopies", "I", false)
def tyX4 : Nat → FieldType := fun k => match k with
  | 0 => .array .int
  | 1 => .array .int
  | 2 => .array .int
  | 3 => .array .int
  | 4 => .array .int
  | 5 => .array .int
  | 6 => .array .int
  | 7 => .int
  | 8 => .int
  | 9 => .int
  | _ => .int
theorem nmX4 : ∀ a, a < 11 → ∀ b, b < 11 → a ≠ b → (TX4 a).2.1 ≠ (TX4 b).2.1 := by decide +kernel
theorem tyX4_ok : ∀ k, k < 11 → parseFieldDescriptor (TX4 k).2.2.1 = some (tyX4 k) := by decide +kernel
abbrev cX4_init : ByteArray := prog_6_method_1_code
def yX4_init : MethodName := ⟨RX4, "<init>", "(I)V"⟩
abbrev cX4_hasHost : ByteArray := prog_6_method_2_code
def yX4_hasHost : MethodName := ⟨RX4, "hasHost", "(I)Z"⟩
abbrev cX4_isLive : ByteArray := prog_6_method_3_code
def yX4_isLive : MethodName := ⟨RX4, "isLive", "(I)Z"⟩
abbrev cX4_addLine : ByteArray := prog_6_method_4_code
def yX4_addLine : MethodName := ⟨RX4, "addLine", "(II)I"⟩
abbrev cX4_putOn : ByteArray := prog_6_method_5_code
def yX4_putOn : MethodName := ⟨RX4, "putOn", "(II)V"⟩
abbrev cX4_takeOff : ByteArray := prog_6_method_6_code
def yX4_takeOff : MethodName := ⟨RX4, "takeOff", "(I)Z"⟩
abbrev cX4_putEnd : ByteArray := prog_6_method_7_code
def yX4_putEnd : MethodName := ⟨RX4, "putEnd", "(II)V"⟩
abbrev cX4_takeEnd : ByteArray := prog_6_method_8_code
def yX4_takeEnd : MethodName := ⟨RX4, "takeEnd", "(II)V"⟩
abbrev cX4_dropHost : ByteArray := prog_6_method_9_code
def yX4_dropHost : MethodName := ⟨RX4, "dropHost", "(I[I)I"⟩
abbrev cX4_hasCopy : ByteArray := prog_6_method_10_code
def yX4_hasCopy : MethodName := ⟨RX4, "hasCopy", "(II)Z"⟩
abbrev cX4_hasOneLineAt : ByteArray := prog_6_method_11_code
def yX4_hasOneLineAt : MethodName := ⟨RX4, "hasOneLineAt", "(II)Z"⟩
abbrev cX4_greatestLoad : ByteArray := prog_6_method_12_code
def yX4_greatestLoad : MethodName := ⟨RX4, "greatestLoad", "()I"⟩
abbrev cX4_leastLoad : ByteArray := prog_6_method_13_code
def yX4_leastLoad : MethodName := ⟨RX4, "leastLoad", "()I"⟩
abbrev cX4_pointsWithCopies : ByteArray := prog_6_method_14_code
def yX4_pointsWithCopies : MethodName := ⟨RX4, "pointsWithCopies", "()I"⟩
def RX5 : String := "LineDealer$Spreading"
def TX5 : u_T := fun k => match k with
  | 0 => ("LineDealer$Spreading", "net", "LLineDealer$Net;", true)
  | 1 => ("LineDealer$Spreading", "values", "[I", true)
  | 2 => ("LineDealer$Spreading", "before", "[I", true)
  | _ => ("LineDealer$Spreading", "rounds", "I", false)
def tyX5 : Nat → FieldType := fun k => match k with
  | 0 => .object "LineDealer$Net"
  | 1 => .array .int
  | 2 => .array .int
  | _ => .int
theorem nmX5 : ∀ a, a < 4 → ∀ b, b < 4 → a ≠ b → (TX5 a).2.1 ≠ (TX5 b).2.1 := by decide +kernel
theorem tyX5_ok : ∀ k, k < 4 → parseFieldDescriptor (TX5 k).2.2.1 = some (tyX5 k) := by decide +kernel
abbrev cX5_init : ByteArray := prog_7_method_1_code
def yX5_init : MethodName := ⟨RX5, "<init>", "(LLineDealer$Net;)V"⟩
abbrev cX5_spread : ByteArray := prog_7_method_2_code
def yX5_spread : MethodName := ⟨RX5, "spread", "()V"⟩
abbrev cX5_goOneRound : ByteArray := prog_7_method_3_code
def yX5_goOneRound : MethodName := ⟨RX5, "goOneRound", "()Z"⟩
abbrev cX5_lowerTo : ByteArray := prog_7_method_4_code
def yX5_lowerTo : MethodName := ⟨RX5, "lowerTo", "(II)Z"⟩
abbrev cX5_letters : ByteArray := prog_7_method_5_code
def yX5_letters : MethodName := ⟨RX5, "letters", "()I"⟩
abbrev cX5_partsWithLines : ByteArray := prog_7_method_6_code
def yX5_partsWithLines : MethodName := ⟨RX5, "partsWithLines", "()I"⟩
def RX6 : String := "LineDealer"
def TX6 : u_T := fun k => match k with
  | 0 => ("LineDealer", "net", "LLineDealer$Net;", true)
  | 1 => ("LineDealer", "dealing", "LLineDealer$Dealing;", true)
  | 2 => ("LineDealer", "moveSearch", "LLineDealer$MoveSearch;", true)
  | 3 => ("LineDealer", "bestSearch", "LLineDealer$BestSearch;", true)
  | 4 => ("LineDealer", "spreading", "LLineDealer$Spreading;", true)
  | 5 => ("LineDealer", "mastering", "LLineDealer$Mastering;", true)
  | 6 => ("LineDealer", "waiting", "[I", true)
  | 7 => ("LineDealer", "windowSize", "I", false)
  | _ => ("LineDealer", "movesEver", "I", false)
def tyX6 : Nat → FieldType := fun k => match k with
  | 0 => .object "LineDealer$Net"
  | 1 => .object "LineDealer$Dealing"
  | 2 => .object "LineDealer$MoveSearch"
  | 3 => .object "LineDealer$BestSearch"
  | 4 => .object "LineDealer$Spreading"
  | 5 => .object "LineDealer$Mastering"
  | 6 => .array .int
  | 7 => .int
  | _ => .int
theorem nmX6 : ∀ a, a < 9 → ∀ b, b < 9 → a ≠ b → (TX6 a).2.1 ≠ (TX6 b).2.1 := by decide +kernel
theorem tyX6_ok : ∀ k, k < 9 → parseFieldDescriptor (TX6 k).2.2.1 = some (tyX6 k) := by decide +kernel
abbrev cX6_init : ByteArray := prog_1_method_1_code
def yX6_init : MethodName := ⟨RX6, "<init>", "(I)V"⟩
abbrev cX6_line : ByteArray := prog_1_method_2_code
def yX6_line : MethodName := ⟨RX6, "line", "(II)I"⟩
abbrev cX6_rule : ByteArray := prog_1_method_3_code
def yX6_rule : MethodName := ⟨RX6, "rule", "(I)Z"⟩
abbrev cX6_weights : ByteArray := prog_1_method_4_code
def yX6_weights : MethodName := ⟨RX6, "weights", "(II)Z"⟩
abbrev cX6_window : ByteArray := prog_1_method_5_code
def yX6_window : MethodName := ⟨RX6, "window", "(I)Z"⟩
abbrev cX6_leave : ByteArray := prog_1_method_6_code
def yX6_leave : MethodName := ⟨RX6, "leave", "(I)Z"⟩
abbrev cX6_better : ByteArray := prog_1_method_7_code
def yX6_better : MethodName := ⟨RX6, "better", "(I)I"⟩
abbrev cX6_more : ByteArray := prog_1_method_8_code
def yX6_more : MethodName := ⟨RX6, "more", "()I"⟩
abbrev cX6_less : ByteArray := prog_1_method_9_code
def yX6_less : MethodName := ⟨RX6, "less", "(I)I"⟩
abbrev cX6_host : ByteArray := prog_1_method_10_code
def yX6_host : MethodName := ⟨RX6, "host", "(I)I"⟩
abbrev cX6_load : ByteArray := prog_1_method_11_code
def yX6_load : MethodName := ⟨RX6, "load", "(I)I"⟩
abbrev cX6_copies : ByteArray := prog_1_method_12_code
def yX6_copies : MethodName := ⟨RX6, "copies", "(I)I"⟩
abbrev cX6_all : ByteArray := prog_1_method_13_code
def yX6_all : MethodName := ⟨RX6, "all", "()I"⟩
abbrev cX6_degree : ByteArray := prog_1_method_14_code
def yX6_degree : MethodName := ⟨RX6, "degree", "(I)I"⟩
abbrev cX6_room : ByteArray := prog_1_method_15_code
def yX6_room : MethodName := ⟨RX6, "room", "()I"⟩
abbrev cX6_best : ByteArray := prog_1_method_16_code
def yX6_best : MethodName := ⟨RX6, "best", "()I"⟩
abbrev cX6_part : ByteArray := prog_1_method_17_code
def yX6_part : MethodName := ⟨RX6, "part", "(I)I"⟩
abbrev cX6_run : ByteArray := prog_1_method_18_code
def yX6_run : MethodName := ⟨RX6, "run", "(I)I"⟩
abbrev cX6_master : ByteArray := prog_1_method_19_code
def yX6_master : MethodName := ⟨RX6, "master", "(I)I"⟩
abbrev cX6_count : ByteArray := prog_1_method_20_code
def yX6_count : MethodName := ⟨RX6, "count", "(I)I"⟩
abbrev cX6_isPoint : ByteArray := prog_1_method_21_code
def yX6_isPoint : MethodName := ⟨RX6, "isPoint", "(I)Z"⟩
abbrev cX6_isWeight : ByteArray := prog_1_method_22_code
def yX6_isWeight : MethodName := ⟨RX6, "isWeight", "(I)Z"⟩
abbrev cX6_keepWindow : ByteArray := prog_1_method_23_code
def yX6_keepWindow : MethodName := ⟨RX6, "keepWindow", "()V"⟩
abbrev cX6_makeBetterMove : ByteArray := prog_1_method_24_code
def yX6_makeBetterMove : MethodName := ⟨RX6, "makeBetterMove", "()Z"⟩
def RX7 : String := "LineDealerModel"
def TX7 : u_T := fun k => match k with
  | 0 => ("LineDealerModel", "hosts", "I", false)
  | 1 => ("LineDealerModel", "lines", "I", false)
  | 2 => ("LineDealerModel", "one", "[I", true)
  | 3 => ("LineDealerModel", "other", "[I", true)
  | 4 => ("LineDealerModel", "hostOf", "[I", true)
  | 5 => ("LineDealerModel", "loads", "[I", true)
  | 6 => ("LineDealerModel", "ends", "[I", true)
  | 7 => ("LineDealerModel", "live", "I", false)
  | 8 => ("LineDealerModel", "window", "I", false)
  | 9 => ("LineDealerModel", "slack", "I", false)
  | 10 => ("LineDealerModel", "lean", "I", false)
  | 11 => ("LineDealerModel", "rule", "I", false)
  | 12 => ("LineDealerModel", "moves", "I", false)
  | 13 => ("LineDealerModel", "isAnew", "[Z", true)
  | 14 => ("LineDealerModel", "load", "[I", true)
  | 15 => ("LineDealerModel", "at", "[I", true)
  | 16 => ("LineDealerModel", "value", "[I", true)
  | 17 => ("LineDealerModel", "then", "[I", true)
  | _ => ("LineDealerModel", "of", "[I", true)
def tyX7 : Nat → FieldType := fun k => match k with
  | 0 => .int
  | 1 => .int
  | 2 => .array .int
  | 3 => .array .int
  | 4 => .array .int
  | 5 => .array .int
  | 6 => .array .int
  | 7 => .int
  | 8 => .int
  | 9 => .int
  | 10 => .int
  | 11 => .int
  | 12 => .int
  | 13 => .array .boolean
  | 14 => .array .int
  | 15 => .array .int
  | 16 => .array .int
  | 17 => .array .int
  | _ => .array .int
theorem nmX7 : ∀ a, a < 19 → ∀ b, b < 19 → a ≠ b → (TX7 a).2.1 ≠ (TX7 b).2.1 := by decide +kernel
theorem tyX7_ok : ∀ k, k < 19 → parseFieldDescriptor (TX7 k).2.2.1 = some (tyX7 k) := by decide +kernel
abbrev cX7_init : ByteArray := prog_9_method_1_code
def yX7_init : MethodName := ⟨RX7, "<init>", "(I)V"⟩
abbrev cX7_in : ByteArray := prog_9_method_2_code
def yX7_in : MethodName := ⟨RX7, "in", "(III)Z"⟩
abbrev cX7_isPoint : ByteArray := prog_9_method_3_code
def yX7_isPoint : MethodName := ⟨RX7, "isPoint", "(I)Z"⟩
abbrev cX7_isLive : ByteArray := prog_9_method_4_code
def yX7_isLive : MethodName := ⟨RX7, "isLive", "(I)Z"⟩
abbrev cX7_roomFor : ByteArray := prog_9_method_5_code
def yX7_roomFor : MethodName := ⟨RX7, "roomFor", "(I)I"⟩
abbrev cX7_puts : ByteArray := prog_9_method_6_code
def yX7_puts : MethodName := ⟨RX7, "puts", "(III)V"⟩
abbrev cX7_greatest : ByteArray := prog_9_method_7_code
def yX7_greatest : MethodName := ⟨RX7, "greatest", "()I"⟩
abbrev cX7_scoreOf : ByteArray := prog_9_method_8_code
def yX7_scoreOf : MethodName := ⟨RX7, "scoreOf", "(III)I"⟩
abbrev cX7_deals : ByteArray := prog_9_method_9_code
def yX7_deals : MethodName := ⟨RX7, "deals", "(I)I"⟩
abbrev cX7_line : ByteArray := prog_9_method_10_code
def yX7_line : MethodName := ⟨RX7, "line", "(II)I"⟩
abbrev cX7_shuts : ByteArray := prog_9_method_11_code
def yX7_shuts : MethodName := ⟨RX7, "shuts", "()V"⟩
abbrev cX7_rule : ByteArray := prog_9_method_12_code
def yX7_rule : MethodName := ⟨RX7, "rule", "(I)Z"⟩
abbrev cX7_weights : ByteArray := prog_9_method_13_code
def yX7_weights : MethodName := ⟨RX7, "weights", "(II)Z"⟩
abbrev cX7_window : ByteArray := prog_9_method_14_code
def yX7_window : MethodName := ⟨RX7, "window", "(I)Z"⟩
abbrev cX7_leave : ByteArray := prog_9_method_15_code
def yX7_leave : MethodName := ⟨RX7, "leave", "(I)Z"⟩
abbrev cX7_change : ByteArray := prog_9_method_16_code
def yX7_change : MethodName := ⟨RX7, "change", "(III)I"⟩
abbrev cX7_moves : ByteArray := prog_9_method_17_code
def yX7_moves : MethodName := ⟨RX7, "moves", "()Z"⟩
abbrev cX7_better : ByteArray := prog_9_method_18_code
def yX7_better : MethodName := ⟨RX7, "better", "(I)I"⟩
abbrev cX7_more : ByteArray := prog_9_method_19_code
def yX7_more : MethodName := ⟨RX7, "more", "()I"⟩
abbrev cX7_less : ByteArray := prog_9_method_20_code
def yX7_less : MethodName := ⟨RX7, "less", "(I)I"⟩
abbrev cX7_host : ByteArray := prog_9_method_21_code
def yX7_host : MethodName := ⟨RX7, "host", "(I)I"⟩
abbrev cX7_load : ByteArray := prog_9_method_22_code
def yX7_load : MethodName := ⟨RX7, "load", "(I)I"⟩
abbrev cX7_copies : ByteArray := prog_9_method_23_code
def yX7_copies : MethodName := ⟨RX7, "copies", "(I)I"⟩
abbrev cX7_copiesOf : ByteArray := prog_9_method_24_code
def yX7_copiesOf : MethodName := ⟨RX7, "copiesOf", "(I)I"⟩
abbrev cX7_all : ByteArray := prog_9_method_25_code
def yX7_all : MethodName := ⟨RX7, "all", "()I"⟩
abbrev cX7_degree : ByteArray := prog_9_method_26_code
def yX7_degree : MethodName := ⟨RX7, "degree", "(I)I"⟩
abbrev cX7_room : ByteArray := prog_9_method_27_code
def yX7_room : MethodName := ⟨RX7, "room", "()I"⟩
abbrev cX7_best : ByteArray := prog_9_method_28_code
def yX7_best : MethodName := ⟨RX7, "best", "()I"⟩
abbrev cX7_dealt : ByteArray := prog_9_method_29_code
def yX7_dealt : MethodName := ⟨RX7, "dealt", "(I)I"⟩
abbrev cX7_runs : ByteArray := prog_9_method_30_code
def yX7_runs : MethodName := ⟨RX7, "runs", "()I"⟩
abbrev cX7_part : ByteArray := prog_9_method_31_code
def yX7_part : MethodName := ⟨RX7, "part", "(I)I"⟩
abbrev cX7_run : ByteArray := prog_9_method_32_code
def yX7_run : MethodName := ⟨RX7, "run", "(I)I"⟩
abbrev cX7_master : ByteArray := prog_9_method_33_code
def yX7_master : MethodName := ⟨RX7, "master", "(I)I"⟩
abbrev cX7_count : ByteArray := prog_9_method_34_code
def yX7_count : MethodName := ⟨RX7, "count", "(I)I"⟩
def RJ9 : String := "java/lang/Math"
abbrev cJ9_max_7cf53 : ByteArray := prog_10_method_65_code
def yJ9_max_7cf53 : MethodName := ⟨RJ9, "max", "(II)I"⟩
abbrev cJ9_min_7cf53 : ByteArray := prog_10_method_69_code
def yJ9_min_7cf53 : MethodName := ⟨RJ9, "min", "(II)I"⟩
def RJ10 : String := "java/lang/System"
def RJ7 : String := "java/util/Arrays"
abbrev cJ7_fill_53178 : ByteArray := prog_12_method_103_code
def yJ7_fill_53178 : MethodName := ⟨RJ7, "fill", "([II)V"⟩
def RL : String := "LineDealerLaw"
abbrev cL_cell : ByteArray := method_2_code
def yL_cell : MethodName := ⟨RL, "cell", "([II)I"⟩
abbrev cL_law : ByteArray := code
def yL_law : MethodName := ⟨RL, "law", "([I)Z"⟩
abbrev vwCl : List vw_C := [(RX0, TX0, 7), (RX1, TX1, 4), (RX2, TX2, 2), (RX3, TX3, 5), (RX4, TX4, 11), (RX5, TX5, 4), (RX6, TX6, 9), (RX7, TX7, 19)]
end
section
/-! The judgement of a walk: a pure program X (its answer and its state, or none) beside the machine at a program counter. -/
def tbG : List Cond := lw_tbl.filter goodWord
theorem tb_lw {w : Cond} (h : w ∈ tbG) : w ∈ lw_tbl := (List.mem_filter.mp h).1
theorem tb_in {ws : List Cond} (h : ∀ w ∈ ws, w ∈ tbG) : GoodIn tbG ws := fun w hw => ⟨h w hw, good_of_word (List.mem_filter.mp (h w hw)).2⟩
theorem tb_in2 {ws : List Cond} (h : ∀ w ∈ ws, w ∈ tbG) : GoodIn lw_tbl ws := fun w hw => ⟨tb_lw (h w hw), good_of_word (List.mem_filter.mp (h w hw)).2⟩
theorem wm0 {w : Cond} {k : Nat} (h : (k2_sels lw_privs)[k]? = some w) (hg : goodWord w = true) : w ∈ tbG := List.mem_filter.mpr ⟨List.mem_append_left _ (List.mem_of_getElem? h), hg⟩
theorem wm1 {w : Cond} {k : Nat} (h : tables_1_1[k]? = some w) (hg : goodWord w = true) : w ∈ tbG := List.mem_filter.mpr ⟨List.mem_append_right _ (List.mem_append_left _ (List.mem_of_getElem? h)), hg⟩
theorem wm2 {w : Cond} {k : Nat} (h : tables_1_2[k]? = some w) (hg : goodWord w = true) : w ∈ tbG := List.mem_filter.mpr ⟨List.mem_append_right _ (List.mem_append_right _ (List.mem_append_left _ (List.mem_of_getElem? h))), hg⟩
theorem wm3 {w : Cond} {k : Nat} (h : tables_1_3[k]? = some w) (hg : goodWord w = true) : w ∈ tbG := List.mem_filter.mpr ⟨List.mem_append_right _ (List.mem_append_right _ (List.mem_append_right _ (List.mem_of_getElem? h))), hg⟩
theorem wmu {C : String} {T : u_T} {N : Nat} (h : ∀ w ∈ u_ws C T N, w ∈ lw_tbl) (hg : (u_ws C T N).all goodWord = true) : ∀ w ∈ u_ws C T N, w ∈ tbG := fun w hw => List.mem_filter.mpr ⟨h w hw, List.all_eq_true.mp hg w hw⟩
/-- the state: int fields by number, arrays by number -/
abbrev St : Type := (Nat → Int32) × (Nat → Nat → Int32)
abbrev Rs : Type := Option (Int32 × St)
def sF (S : St) (k : Nat) (x : Int32) : St := (upd S.1 k x, S.2)
def sA (S : St) (k i : Nat) (x : Int32) : St := (S.1, fun j => if j = k then upd (S.2 k) i x else S.2 j)
def sR (S : St) (k : Nat) (f : Nat → Int32) : St := (S.1, fun j => if j = k then f else S.2 j)
def ix (i : Int32) : Nat := i.toNatClampNeg
def inb (i : Int32) (n : Nat) : Bool := !(decide (i < 0) || decide (n ≤ ix i))
def b01 (x : Int32) : Bool := decide (x = 0) || decide (x = 1)
def nz (x : Int32) : Bool := !(decide (x = 0))
def gA (b : Bool) (X : Rs) : Rs := if b = true then X else none
def Lt (x : Int32) (X : Int32 → Rs) : Rs := X x
def LtS (S : St) (X : St → Rs) : Rs := X S
def Bd (F : Rs) (X : Int32 → St → Rs) : Rs := F.bind fun q => X q.1 q.2
def FU : Nat := 20000
def rmD (d : Nat) : Room := { frames := d, cells := 0, slots := 0, locals := 60 * d }
theorem inb_vp {i : Int32} {n : Nat} (h : inb i n = true) : vp_in i n := by
  simp [inb, ix] at h
  simp [vp_in]
  exact ⟨h.1, Nat.not_le.mp (of_decide_eq_false h.2)⟩
theorem gA_t {b : Bool} {X : Rs} {q : Int32 × St} (h : gA b X = some q) : b = true ∧ X = some q := by
  unfold gA at h
  split at h
  · exact ⟨by assumption, h⟩
  · cases h
theorem nz_t {x : Int32} (h : nz x = true) : ¬ x = 0 := by simpa [nz] using h
theorem b01_t {x : Int32} (h : b01 x = true) : x = 0 ∨ x = 1 := by simpa [b01] using h
theorem Bd_t {F : Rs} {X : Int32 → St → Rs} {q : Int32 × St} (h : Bd F X = some q) : ∃ r S, F = some (r, S) ∧ X r S = some q := by
  unfold Bd at h
  cases F with
  | none => cases h
  | some v => exact ⟨v.1, v.2, rfl, h⟩
theorem nar_b {x : Int32} (h : b01 x = true) : narrow .boolean (.int x) = .int x := by
  rcases b01_t h with rfl | rfl <;> rfl
theorem vp_nar_b {x : Int32} (h : b01 x = true) : vp_nar .boolean x = x := by
  rcases b01_t h with rfl | rfl <;> rfl
/-- the ends -/
def WDp (D : va_G) (Wd : St → va_W) (tys : List (ClassId × FieldType)) (A : Nat → Prop) (S : St) (t : State) : Prop := va_P D vwCl (Wd S) t.heap ∧ va_K D vwCl tys t ∧ va_D A (Wd S)
def QI (D : va_G) (Wd : St → va_W) (tys : List (ClassId × FieldType)) (A : Nat → Prop) (r : Int32) (S : St) : Array Value → State → Outcome → State → Prop := va_Qi (S := Unit) (fun r' _ => r' = r) (fun _ t => WDp D Wd tys A S t) A
def QV (D : va_G) (Wd : St → va_W) (tys : List (ClassId × FieldType)) (A : Nat → Prop) (_ : Int32) (S : St) : Array Value → State → Outcome → State → Prop := va_Qv (S := Unit) (fun _ => True) (fun _ t => WDp D Wd tys A S t) A
def PRE (D : va_G) (Wd : St → va_W) (tys : List (ClassId × FieldType)) (sz : Nat) (S : St) (U : State) : Prop := U.heap.size = sz ∧ va_P D vwCl (Wd S) U.heap ∧ va_K D vwCl tys U ∧ va_D (fun _ => True) (Wd S)
/-- contracts: if the pure program answers, the method does so -/
def CI (l : Launch) (D : va_G) (Wd : St → va_W) (tys : List (ClassId × FieldType)) (y : MethodName) (cw : Cond) (d : Nat) (av : List Value) (X : Rs) (S : St) : Prop := ∀ r S', X = some (r, S') → ∀ sz : Nat, Met l y (cw :: tbG) (rmD d) (va_Pc av (PRE D Wd tys sz S)) (QI D Wd tys (va_A (Wd S) sz) r S') 0 0 (va_A (Wd S) sz)
def CV (l : Launch) (D : va_G) (Wd : St → va_W) (tys : List (ClassId × FieldType)) (y : MethodName) (cw : Cond) (d : Nat) (av : List Value) (X : Rs) (S : St) : Prop := ∀ r S', X = some (r, S') → ∀ sz : Nat, Met l y (cw :: tbG) (rmD d) (va_Pc av (PRE D Wd tys sz S)) (QV D Wd tys (va_A (Wd S) sz) r S') 0 0 (va_A (Wd S) sz)
/-- what holds all through a method's walk -/
def CX (D : va_G) (tys : List (ClassId × FieldType)) (p : Program) (s : State) (m : MethodId) (args : Array Value) (meth : Method) (c : Code) (A : Nat → Prop) (cc : ByteArray) (nL : Nat) (own : String) (ret : Option FieldType) : Prop :=
  p.tables.exec = Jvm.exec ∧ c.code = cc ∧ meth.sig.returnType = ret ∧ c.maxLocals = nL ∧ s.vm.findClass own = some m.cls ∧ (∀ w ∈ tbG, w.before args s = true) ∧ meth.locks = false ∧ va_K D vwCl tys s ∧ ∀ q, s.heap.size ≤ q → A q
def RU (D : va_G) (Wd : St → va_W) (p : Program) (l : Launch) (e : Env) (d : Nat) (s : State) (m : MethodId) (args : Array Value) (below : List Frame) (meth : Method) (c : Code) (A : Nat → Prop) (nL : Nat) (Qf : Int32 → St → Array Value → State → Outcome → State → Prop) (X : Rs) (pc : Nat) (st : List Value) (lv : List (Nat × Value)) (S : St) : Prop :=
  ∀ r S', X = some (r, S') → ∀ (H : Heap) (locs : List Loc) (ls : Array Slot), va_P D vwCl (Wd S) H → va_D A (Wd S) → va_S A s.heap H locs → lv_has ls nL lv → W p l e (rmD d) s m args below meth c H locs 0 0 (MQ below (Qf r S') args s 0 0 A) (F0 m pc ls st)
section RW
variable {D : va_G} {Wd : St → va_W} {tys : List (ClassId × FieldType)} {p : Program} {l : Launch} {e : Env} {d : Nat} {s : State} {m : MethodId} {args : Array Value} {below : List Frame} {meth : Method} {c : Code} {A : Nat → Prop} {cc : ByteArray} {nL : Nat} {own : String} {ret : Option FieldType} {Qf : Int32 → St → Array Value → State → Outcome → State → Prop}
variable {X Y : Rs} {pc : Nat} {st : List Value} {lv lv' : List (Nat × Value)} {S : St}
theorem R_iconst (C : CX D tys p s m args meth c A cc nL own ret) {n : Int} {v : Int32} (hd : decode cc pc = .ok (.iconst n, 1)) (hv : Int32.ofInt n = v) (k : RU D Wd p l e d s m args below meth c A nL Qf X (pc+1) (.int v :: st) lv S) : RU D Wd p l e d s m args below meth c A nL Qf X (pc) (st) lv S := fun r S' hX H locs ls hP hD hS hl => lv_iconst C.1 C.2.1 hd hv (k r S' hX H locs ls hP hD hS hl)
theorem R_bipush (C : CX D tys p s m args meth c A cc nL own ret) {n : Int} {v : Int32} (hd : decode cc pc = .ok (.bipush n, 2)) (hv : (Int8.ofInt n).toInt32 = v) (k : RU D Wd p l e d s m args below meth c A nL Qf X (pc+2) (.int v :: st) lv S) : RU D Wd p l e d s m args below meth c A nL Qf X (pc) (st) lv S := fun r S' hX H locs ls hP hD hS hl => lv_bipush C.1 C.2.1 hd hv (k r S' hX H locs ls hP hD hS hl)
theorem R_sipush (C : CX D tys p s m args meth c A cc nL own ret) {n : Int} {v : Int32} (hd : decode cc pc = .ok (.sipush n, 3)) (hv : (Int16.ofInt n).toInt32 = v) (k : RU D Wd p l e d s m args below meth c A nL Qf X (pc+3) (.int v :: st) lv S) : RU D Wd p l e d s m args below meth c A nL Qf X (pc) (st) lv S := fun r S' hX H locs ls hP hD hS hl => lv_sipush C.1 C.2.1 hd hv (k r S' hX H locs ls hP hD hS hl)
theorem R_iload_n (C : CX D tys p s m args meth c A cc nL own ret) {j : Fin 4} {i : Nat} {x : Int32} (hd : decode cc pc = .ok (.iload_n j, 1)) (hi : (j : Nat) = i) (q : Nat) (hq : lv[q]? = some (i, .int x)) (k : RU D Wd p l e d s m args below meth c A nL Qf X (pc+1) (.int x :: st) lv S) : RU D Wd p l e d s m args below meth c A nL Qf X (pc) (st) lv S := fun r S' hX H locs ls hP hD hS hl => lv_iload_n C.1 C.2.1 hd hi (lv_at hl q hq) (k r S' hX H locs ls hP hD hS hl)
theorem R_iload (C : CX D tys p s m args meth c A cc nL own ret) {i : Nat} {x : Int32} (hd : decode cc pc = .ok (.iload i, 2)) (q : Nat) (hq : lv[q]? = some (i, .int x)) (k : RU D Wd p l e d s m args below meth c A nL Qf X (pc+2) (.int x :: st) lv S) : RU D Wd p l e d s m args below meth c A nL Qf X (pc) (st) lv S := fun r S' hX H locs ls hP hD hS hl => lv_iload C.1 C.2.1 hd (lv_at hl q hq) (k r S' hX H locs ls hP hD hS hl)
theorem R_aload_n (C : CX D tys p s m args meth c A cc nL own ret) {j : Fin 4} {i : Nat} {x : Nat} (hd : decode cc pc = .ok (.aload_n j, 1)) (hi : (j : Nat) = i) (q : Nat) (hq : lv[q]? = some (i, .ref x)) (k : RU D Wd p l e d s m args below meth c A nL Qf X (pc+1) (.ref x :: st) lv S) : RU D Wd p l e d s m args below meth c A nL Qf X (pc) (st) lv S := fun r S' hX H locs ls hP hD hS hl => lv_aload_n C.1 C.2.1 hd hi (lv_at hl q hq) (k r S' hX H locs ls hP hD hS hl)
theorem R_istore_n (C : CX D tys p s m args meth c A cc nL own ret) {j : Fin 4} {i : Nat} {x : Int32} (hd : decode cc pc = .ok (.istore_n j, 1)) (hi : (j : Nat) = i) (hn : i < nL) (hv : (i, Value.int x) :: (lv.filter (fun q => !(q.1 == i) && !(q.1 + 1 == i && q.2.category == 2))) = lv') (k : RU D Wd p l e d s m args below meth c A nL Qf X (pc+1) (st) lv' S) : RU D Wd p l e d s m args below meth c A nL Qf X (pc) (.int x :: st) lv S := fun r S' hX H locs ls hP hD hS hl => lv_istore_n C.1 C.2.1 hd hi hl hn hv (fun ls hl => k r S' hX H locs ls hP hD hS hl)
theorem R_istore (C : CX D tys p s m args meth c A cc nL own ret) {i : Nat} {x : Int32} (hd : decode cc pc = .ok (.istore i, 2)) (hn : i < nL) (hv : (i, Value.int x) :: (lv.filter (fun q => !(q.1 == i) && !(q.1 + 1 == i && q.2.category == 2))) = lv') (k : RU D Wd p l e d s m args below meth c A nL Qf X (pc+2) (st) lv' S) : RU D Wd p l e d s m args below meth c A nL Qf X (pc) (.int x :: st) lv S := fun r S' hX H locs ls hP hD hS hl => lv_istore C.1 C.2.1 hd hl hn hv (fun ls hl => k r S' hX H locs ls hP hD hS hl)
theorem R_iinc (C : CX D tys p s m args meth c A cc nL own ret) {i : Nat} {n : Int} {x v : Int32} (hd : decode cc pc = .ok (.iinc i n, 3)) (q : Nat) (hq : lv[q]? = some (i, .int x)) (hv : x + Int32.ofInt n = v) (hn : i < nL) (hl2 : (i, Value.int v) :: (lv.filter (fun q => !(q.1 == i) && !(q.1 + 1 == i && q.2.category == 2))) = lv') (k : RU D Wd p l e d s m args below meth c A nL Qf X (pc+3) (st) lv' S) : RU D Wd p l e d s m args below meth c A nL Qf X (pc) (st) lv S := fun r S' hX H locs ls hP hD hS hl => lv_iinc C.1 C.2.1 hd hl hq hv hn hl2 (fun ls hl => k r S' hX H locs ls hP hD hS hl)
theorem R_iadd (C : CX D tys p s m args meth c A cc nL own ret) {x y : Int32} (hd : decode cc pc = .ok (.iadd, 1)) (k : RU D Wd p l e d s m args below meth c A nL Qf X (pc+1) (.int (x + y) :: st) lv S) : RU D Wd p l e d s m args below meth c A nL Qf X (pc) (.int y :: .int x :: st) lv S := fun r S' hX H locs ls hP hD hS hl => lv_iadd C.1 C.2.1 hd (k r S' hX H locs ls hP hD hS hl)
theorem R_isub (C : CX D tys p s m args meth c A cc nL own ret) {x y : Int32} (hd : decode cc pc = .ok (.isub, 1)) (k : RU D Wd p l e d s m args below meth c A nL Qf X (pc+1) (.int (x - y) :: st) lv S) : RU D Wd p l e d s m args below meth c A nL Qf X (pc) (.int y :: .int x :: st) lv S := fun r S' hX H locs ls hP hD hS hl => lv_isub C.1 C.2.1 hd (k r S' hX H locs ls hP hD hS hl)
theorem R_imul (C : CX D tys p s m args meth c A cc nL own ret) {x y : Int32} (hd : decode cc pc = .ok (.imul, 1)) (k : RU D Wd p l e d s m args below meth c A nL Qf X (pc+1) (.int (x * y) :: st) lv S) : RU D Wd p l e d s m args below meth c A nL Qf X (pc) (.int y :: .int x :: st) lv S := fun r S' hX H locs ls hP hD hS hl => lv_imul C.1 C.2.1 hd (k r S' hX H locs ls hP hD hS hl)
theorem R_iand (C : CX D tys p s m args meth c A cc nL own ret) {x y : Int32} (hd : decode cc pc = .ok (.iand, 1)) (k : RU D Wd p l e d s m args below meth c A nL Qf X (pc+1) (.int (x &&& y) :: st) lv S) : RU D Wd p l e d s m args below meth c A nL Qf X (pc) (.int y :: .int x :: st) lv S := fun r S' hX H locs ls hP hD hS hl => lv_iand C.1 C.2.1 hd (k r S' hX H locs ls hP hD hS hl)
theorem R_ior (C : CX D tys p s m args meth c A cc nL own ret) {x y : Int32} (hd : decode cc pc = .ok (.ior, 1)) (k : RU D Wd p l e d s m args below meth c A nL Qf X (pc+1) (.int (x ||| y) :: st) lv S) : RU D Wd p l e d s m args below meth c A nL Qf X (pc) (.int y :: .int x :: st) lv S := fun r S' hX H locs ls hP hD hS hl => lv_ior C.1 C.2.1 hd (k r S' hX H locs ls hP hD hS hl)
theorem R_ixor (C : CX D tys p s m args meth c A cc nL own ret) {x y : Int32} (hd : decode cc pc = .ok (.ixor, 1)) (k : RU D Wd p l e d s m args below meth c A nL Qf X (pc+1) (.int (x ^^^ y) :: st) lv S) : RU D Wd p l e d s m args below meth c A nL Qf X (pc) (.int y :: .int x :: st) lv S := fun r S' hX H locs ls hP hD hS hl => lv_ixor C.1 C.2.1 hd (k r S' hX H locs ls hP hD hS hl)
theorem R_ishl (C : CX D tys p s m args meth c A cc nL own ret) {x y : Int32} (hd : decode cc pc = .ok (.ishl, 1)) (k : RU D Wd p l e d s m args below meth c A nL Qf X (pc+1) (.int (x <<< (y &&& 31)) :: st) lv S) : RU D Wd p l e d s m args below meth c A nL Qf X (pc) (.int y :: .int x :: st) lv S := fun r S' hX H locs ls hP hD hS hl => lv_ishl C.1 C.2.1 hd (k r S' hX H locs ls hP hD hS hl)
theorem R_ishr (C : CX D tys p s m args meth c A cc nL own ret) {x y : Int32} (hd : decode cc pc = .ok (.ishr, 1)) (k : RU D Wd p l e d s m args below meth c A nL Qf X (pc+1) (.int (x >>> (y &&& 31)) :: st) lv S) : RU D Wd p l e d s m args below meth c A nL Qf X (pc) (.int y :: .int x :: st) lv S := fun r S' hX H locs ls hP hD hS hl => lv_ishr C.1 C.2.1 hd (k r S' hX H locs ls hP hD hS hl)
theorem R_idiv (C : CX D tys p s m args meth c A cc nL own ret) {x y : Int32} (hd : decode cc pc = .ok (.idiv, 1)) (k : RU D Wd p l e d s m args below meth c A nL Qf X (pc+1) (.int (x / y) :: st) lv S) : RU D Wd p l e d s m args below meth c A nL Qf (gA (nz y) X) (pc) (.int y :: .int x :: st) lv S := fun r S' hX H locs ls hP hD hS hl => lv_idiv C.1 C.2.1 hd (nz_t (gA_t hX).1) (k r S' (gA_t hX).2 H locs ls hP hD hS hl)
theorem R_irem (C : CX D tys p s m args meth c A cc nL own ret) {x y : Int32} (hd : decode cc pc = .ok (.irem, 1)) (k : RU D Wd p l e d s m args below meth c A nL Qf X (pc+1) (.int (x - x / y * y) :: st) lv S) : RU D Wd p l e d s m args below meth c A nL Qf (gA (nz y) X) (pc) (.int y :: .int x :: st) lv S := fun r S' hX H locs ls hP hD hS hl => lv_irem C.1 C.2.1 hd (nz_t (gA_t hX).1) (k r S' (gA_t hX).2 H locs ls hP hD hS hl)
theorem R_ineg (C : CX D tys p s m args meth c A cc nL own ret) {x : Int32} (hd : decode cc pc = .ok (.ineg, 1)) (k : RU D Wd p l e d s m args below meth c A nL Qf X (pc+1) (.int (-x) :: st) lv S) : RU D Wd p l e d s m args below meth c A nL Qf X (pc) (.int x :: st) lv S := fun r S' hX H locs ls hP hD hS hl => lv_ineg C.1 C.2.1 hd (k r S' hX H locs ls hP hD hS hl)
theorem R_dup (C : CX D tys p s m args meth c A cc nL own ret) {va : Value} (hd : decode cc pc = .ok (.dup, 1)) (ha : va.category = 1) (k : RU D Wd p l e d s m args below meth c A nL Qf X (pc+1) (va :: va :: st) lv S) : RU D Wd p l e d s m args below meth c A nL Qf X (pc) (va :: st) lv S := fun r S' hX H locs ls hP hD hS hl => lv_dup C.1 C.2.1 hd ha (k r S' hX H locs ls hP hD hS hl)
theorem R_pop (C : CX D tys p s m args meth c A cc nL own ret) {va : Value} (hd : decode cc pc = .ok (.pop, 1)) (ha : va.category = 1) (k : RU D Wd p l e d s m args below meth c A nL Qf X (pc+1) (st) lv S) : RU D Wd p l e d s m args below meth c A nL Qf X (pc) (va :: st) lv S := fun r S' hX H locs ls hP hD hS hl => lv_pop C.1 C.2.1 hd ha (k r S' hX H locs ls hP hD hS hl)
theorem R_dup2 (C : CX D tys p s m args meth c A cc nL own ret) {va vb : Value} (hd : decode cc pc = .ok (.dup2, 1)) (ha : va.category = 1) (hb : vb.category = 1) (k : RU D Wd p l e d s m args below meth c A nL Qf X (pc+1) (va :: vb :: va :: vb :: st) lv S) : RU D Wd p l e d s m args below meth c A nL Qf X (pc) (va :: vb :: st) lv S := fun r S' hX H locs ls hP hD hS hl => lv_dup2_11 C.1 C.2.1 hd ha hb (k r S' hX H locs ls hP hD hS hl)
theorem R_if_eq (C : CX D tys p s m args meth c A cc nL own ret) {x : Int32} {off : Int} {tgt : Nat} (hd : decode cc pc = .ok (.ifCond .eq off, 3)) (ht : (pc : Int) + off = (tgt : Int)) (kt : RU D Wd p l e d s m args below meth c A nL Qf X (tgt) (st) lv S) (kf : RU D Wd p l e d s m args below meth c A nL Qf Y (pc+3) (st) lv S) : RU D Wd p l e d s m args below meth c A nL Qf (if x = 0 then X else Y) (pc) (.int x :: st) lv S := fun r S' hX H locs ls hP hD hS hl => lv_if_eq C.1 C.2.1 hd ht (fun q => kt r S' (by rw [if_pos q] at hX; exact hX) H locs ls hP hD hS hl) (fun q => kf r S' (by rw [if_neg q] at hX; exact hX) H locs ls hP hD hS hl)
theorem R_if_lt (C : CX D tys p s m args meth c A cc nL own ret) {x : Int32} {off : Int} {tgt : Nat} (hd : decode cc pc = .ok (.ifCond .lt off, 3)) (ht : (pc : Int) + off = (tgt : Int)) (kt : RU D Wd p l e d s m args below meth c A nL Qf X (tgt) (st) lv S) (kf : RU D Wd p l e d s m args below meth c A nL Qf Y (pc+3) (st) lv S) : RU D Wd p l e d s m args below meth c A nL Qf (if x < 0 then X else Y) (pc) (.int x :: st) lv S := fun r S' hX H locs ls hP hD hS hl => lv_if_lt C.1 C.2.1 hd ht (fun q => kt r S' (by rw [if_pos q] at hX; exact hX) H locs ls hP hD hS hl) (fun q => kf r S' (by rw [if_neg q] at hX; exact hX) H locs ls hP hD hS hl)
theorem R_if_ge (C : CX D tys p s m args meth c A cc nL own ret) {x : Int32} {off : Int} {tgt : Nat} (hd : decode cc pc = .ok (.ifCond .ge off, 3)) (ht : (pc : Int) + off = (tgt : Int)) (kt : RU D Wd p l e d s m args below meth c A nL Qf X (tgt) (st) lv S) (kf : RU D Wd p l e d s m args below meth c A nL Qf Y (pc+3) (st) lv S) : RU D Wd p l e d s m args below meth c A nL Qf (if 0 ≤ x then X else Y) (pc) (.int x :: st) lv S := fun r S' hX H locs ls hP hD hS hl => lv_if_ge C.1 C.2.1 hd ht (fun q => kt r S' (by rw [if_pos q] at hX; exact hX) H locs ls hP hD hS hl) (fun q => kf r S' (by rw [if_neg q] at hX; exact hX) H locs ls hP hD hS hl)
theorem R_if_gt (C : CX D tys p s m args meth c A cc nL own ret) {x : Int32} {off : Int} {tgt : Nat} (hd : decode cc pc = .ok (.ifCond .gt off, 3)) (ht : (pc : Int) + off = (tgt : Int)) (kt : RU D Wd p l e d s m args below meth c A nL Qf X (tgt) (st) lv S) (kf : RU D Wd p l e d s m args below meth c A nL Qf Y (pc+3) (st) lv S) : RU D Wd p l e d s m args below meth c A nL Qf (if 0 < x then X else Y) (pc) (.int x :: st) lv S := fun r S' hX H locs ls hP hD hS hl => lv_if_gt C.1 C.2.1 hd ht (fun q => kt r S' (by rw [if_pos q] at hX; exact hX) H locs ls hP hD hS hl) (fun q => kf r S' (by rw [if_neg q] at hX; exact hX) H locs ls hP hD hS hl)
theorem R_if_le (C : CX D tys p s m args meth c A cc nL own ret) {x : Int32} {off : Int} {tgt : Nat} (hd : decode cc pc = .ok (.ifCond .le off, 3)) (ht : (pc : Int) + off = (tgt : Int)) (kt : RU D Wd p l e d s m args below meth c A nL Qf X (tgt) (st) lv S) (kf : RU D Wd p l e d s m args below meth c A nL Qf Y (pc+3) (st) lv S) : RU D Wd p l e d s m args below meth c A nL Qf (if x ≤ 0 then X else Y) (pc) (.int x :: st) lv S := fun r S' hX H locs ls hP hD hS hl => lv_if_le C.1 C.2.1 hd ht (fun q => kt r S' (by rw [if_pos q] at hX; exact hX) H locs ls hP hD hS hl) (fun q => kf r S' (by rw [if_neg q] at hX; exact hX) H locs ls hP hD hS hl)
theorem R_icmp_eq (C : CX D tys p s m args meth c A cc nL own ret) {x y : Int32} {off : Int} {tgt : Nat} (hd : decode cc pc = .ok (.if_icmp .eq off, 3)) (ht : (pc : Int) + off = (tgt : Int)) (kt : RU D Wd p l e d s m args below meth c A nL Qf X (tgt) (st) lv S) (kf : RU D Wd p l e d s m args below meth c A nL Qf Y (pc+3) (st) lv S) : RU D Wd p l e d s m args below meth c A nL Qf (if x = y then X else Y) (pc) (.int y :: .int x :: st) lv S := fun r S' hX H locs ls hP hD hS hl => lv_icmp_eq C.1 C.2.1 hd ht (fun q => kt r S' (by rw [if_pos q] at hX; exact hX) H locs ls hP hD hS hl) (fun q => kf r S' (by rw [if_neg q] at hX; exact hX) H locs ls hP hD hS hl)
theorem R_icmp_lt (C : CX D tys p s m args meth c A cc nL own ret) {x y : Int32} {off : Int} {tgt : Nat} (hd : decode cc pc = .ok (.if_icmp .lt off, 3)) (ht : (pc : Int) + off = (tgt : Int)) (kt : RU D Wd p l e d s m args below meth c A nL Qf X (tgt) (st) lv S) (kf : RU D Wd p l e d s m args below meth c A nL Qf Y (pc+3) (st) lv S) : RU D Wd p l e d s m args below meth c A nL Qf (if x < y then X else Y) (pc) (.int y :: .int x :: st) lv S := fun r S' hX H locs ls hP hD hS hl => lv_icmp_lt C.1 C.2.1 hd ht (fun q => kt r S' (by rw [if_pos q] at hX; exact hX) H locs ls hP hD hS hl) (fun q => kf r S' (by rw [if_neg q] at hX; exact hX) H locs ls hP hD hS hl)
theorem R_icmp_ge (C : CX D tys p s m args meth c A cc nL own ret) {x y : Int32} {off : Int} {tgt : Nat} (hd : decode cc pc = .ok (.if_icmp .ge off, 3)) (ht : (pc : Int) + off = (tgt : Int)) (kt : RU D Wd p l e d s m args below meth c A nL Qf X (tgt) (st) lv S) (kf : RU D Wd p l e d s m args below meth c A nL Qf Y (pc+3) (st) lv S) : RU D Wd p l e d s m args below meth c A nL Qf (if y ≤ x then X else Y) (pc) (.int y :: .int x :: st) lv S := fun r S' hX H locs ls hP hD hS hl => lv_icmp_ge C.1 C.2.1 hd ht (fun q => kt r S' (by rw [if_pos q] at hX; exact hX) H locs ls hP hD hS hl) (fun q => kf r S' (by rw [if_neg q] at hX; exact hX) H locs ls hP hD hS hl)
theorem R_icmp_gt (C : CX D tys p s m args meth c A cc nL own ret) {x y : Int32} {off : Int} {tgt : Nat} (hd : decode cc pc = .ok (.if_icmp .gt off, 3)) (ht : (pc : Int) + off = (tgt : Int)) (kt : RU D Wd p l e d s m args below meth c A nL Qf X (tgt) (st) lv S) (kf : RU D Wd p l e d s m args below meth c A nL Qf Y (pc+3) (st) lv S) : RU D Wd p l e d s m args below meth c A nL Qf (if y < x then X else Y) (pc) (.int y :: .int x :: st) lv S := fun r S' hX H locs ls hP hD hS hl => lv_icmp_gt C.1 C.2.1 hd ht (fun q => kt r S' (by rw [if_pos q] at hX; exact hX) H locs ls hP hD hS hl) (fun q => kf r S' (by rw [if_neg q] at hX; exact hX) H locs ls hP hD hS hl)
theorem R_icmp_le (C : CX D tys p s m args meth c A cc nL own ret) {x y : Int32} {off : Int} {tgt : Nat} (hd : decode cc pc = .ok (.if_icmp .le off, 3)) (ht : (pc : Int) + off = (tgt : Int)) (kt : RU D Wd p l e d s m args below meth c A nL Qf X (tgt) (st) lv S) (kf : RU D Wd p l e d s m args below meth c A nL Qf Y (pc+3) (st) lv S) : RU D Wd p l e d s m args below meth c A nL Qf (if x ≤ y then X else Y) (pc) (.int y :: .int x :: st) lv S := fun r S' hX H locs ls hP hD hS hl => lv_icmp_le C.1 C.2.1 hd ht (fun q => kt r S' (by rw [if_pos q] at hX; exact hX) H locs ls hP hD hS hl) (fun q => kf r S' (by rw [if_neg q] at hX; exact hX) H locs ls hP hD hS hl)
theorem R_if_ne (C : CX D tys p s m args meth c A cc nL own ret) {x : Int32} {off : Int} {tgt : Nat} (hd : decode cc pc = .ok (.ifCond .ne off, 3)) (ht : (pc : Int) + off = (tgt : Int)) (kf : RU D Wd p l e d s m args below meth c A nL Qf X (pc+3) (st) lv S) (kt : RU D Wd p l e d s m args below meth c A nL Qf Y (tgt) (st) lv S) : RU D Wd p l e d s m args below meth c A nL Qf (if x = 0 then X else Y) (pc) (.int x :: st) lv S := fun r S' hX H locs ls hP hD hS hl => lv_if_ne C.1 C.2.1 hd ht (fun q => kt r S' (by rw [if_neg q] at hX; exact hX) H locs ls hP hD hS hl) (fun q => kf r S' (by rw [if_pos q] at hX; exact hX) H locs ls hP hD hS hl)
theorem R_icmp_ne (C : CX D tys p s m args meth c A cc nL own ret) {x y : Int32} {off : Int} {tgt : Nat} (hd : decode cc pc = .ok (.if_icmp .ne off, 3)) (ht : (pc : Int) + off = (tgt : Int)) (kf : RU D Wd p l e d s m args below meth c A nL Qf X (pc+3) (st) lv S) (kt : RU D Wd p l e d s m args below meth c A nL Qf Y (tgt) (st) lv S) : RU D Wd p l e d s m args below meth c A nL Qf (if x = y then X else Y) (pc) (.int y :: .int x :: st) lv S := fun r S' hX H locs ls hP hD hS hl => lv_icmp_ne C.1 C.2.1 hd ht (fun q => kt r S' (by rw [if_neg q] at hX; exact hX) H locs ls hP hD hS hl) (fun q => kf r S' (by rw [if_pos q] at hX; exact hX) H locs ls hP hD hS hl)
theorem R_goto (C : CX D tys p s m args meth c A cc nL own ret) {off : Int} {tgt : Nat} (hd : decode cc pc = .ok (.goto off, 3)) (ht : (pc : Int) + off = (tgt : Int)) (k : RU D Wd p l e d s m args below meth c A nL Qf X (tgt) (st) lv S) : RU D Wd p l e d s m args below meth c A nL Qf X (pc) (st) lv S := fun r S' hX H locs ls hP hD hS hl => lv_goto C.1 C.2.1 hd ht (k r S' hX H locs ls hP hD hS hl)
theorem R_none : RU D Wd p l e d s m args below meth c A nL Qf none (pc) (st) lv S := fun _ _ h => by cases h
theorem R_let {x : Int32} {Z : Int32 → Rs} (k : ∀ y : Int32, RU D Wd p l e d s m args below meth c A nL Qf (Z y) (pc) (.int y :: st) lv S) : RU D Wd p l e d s m args below meth c A nL Qf (Lt x Z) (pc) (.int x :: st) lv S := k x
theorem R_letS {Z : St → Rs} (k : ∀ S1 : St, RU D Wd p l e d s m args below meth c A nL Qf (Z S1) (pc) (st) lv S1) : RU D Wd p l e d s m args below meth c A nL Qf (LtS S Z) (pc) (st) lv S := k S
theorem R_sub (ks : List Nat) (h : lv_pick lv ks = lv') (k : RU D Wd p l e d s m args below meth c A nL Qf X (pc) (st) lv' S) : RU D Wd p l e d s m args below meth c A nL Qf X (pc) (st) lv S := fun r S' hX H locs ls hP hD hS hl => k r S' hX H locs ls hP hD hS (lv_sub hl ks h)
theorem R_eq {x v : Int32} (h : x = v → RU D Wd p l e d s m args below meth c A nL Qf X (pc) (.int v :: st) lv S) (h2 : ¬ x = v → RU D Wd p l e d s m args below meth c A nL Qf Y (pc) (.int x :: st) lv S) : RU D Wd p l e d s m args below meth c A nL Qf (if x = v then X else Y) (pc) (.int x :: st) lv S := fun r S' hX H locs ls hP hD hS hl => by
  by_cases q : x = v
  · rw [if_pos q] at hX
    have := h q r S' hX H locs ls hP hD hS hl
    rw [q]; exact this
  · rw [if_neg q] at hX
    exact h2 q r S' hX H locs ls hP hD hS hl
theorem R_tsIn (C : CX D tys p s m args meth c A cc nL own ret) {dflt lo hi : Int} {offs : Array Int} {len : Nat} {x : Int32} {off : Int} {tgt : Nat} (hd : decode cc pc = .ok (.tableswitch dflt lo hi offs, len)) (h1 : ¬ x.toInt < lo) (h2 : ¬ hi < x.toInt) (ho : offs[(x.toInt - lo).toNat]? = some off) (ht : (pc : Int) + off = (tgt : Int)) (k : RU D Wd p l e d s m args below meth c A nL Qf X (tgt) (st) lv S) : RU D Wd p l e d s m args below meth c A nL Qf X (pc) (.int x :: st) lv S := fun r S' hX H locs ls hP hD hS hl => lv_tableIn C.1 C.2.1 hd h1 h2 ho ht (k r S' hX H locs ls hP hD hS hl)
theorem R_tsOut (C : CX D tys p s m args meth c A cc nL own ret) {dflt lo hi : Int} {offs : Array Int} {len : Nat} {x : Int32} {tgt : Nat} (hd : decode cc pc = .ok (.tableswitch dflt lo hi offs, len)) (h : x.toInt < lo ∨ hi < x.toInt) (ht : (pc : Int) + dflt = (tgt : Int)) (k : RU D Wd p l e d s m args below meth c A nL Qf X (tgt) (st) lv S) : RU D Wd p l e d s m args below meth c A nL Qf X (pc) (.int x :: st) lv S := fun r S' hX H locs ls hP hD hS hl => lv_tableOut C.1 C.2.1 hd h ht (k r S' hX H locs ls hP hD hS hl)
theorem R_lsw (C : CX D tys p s m args meth c A cc nL own ret) {dflt : Int} {ps : Array (Int × Int)} {len : Nat} {x : Int32} {off : Int} {tgt : Nat} (hd : decode cc pc = .ok (.lookupswitch dflt ps, len)) (hp : (ps.toList.zip (ps.toList.drop 1)).all (fun (a, next) => a.1 < next.1) = true) (ho : Op.lookupswitch.offset ps.toList dflt x.toInt = off) (ht : (pc : Int) + off = (tgt : Int)) (k : RU D Wd p l e d s m args below meth c A nL Qf X (tgt) (st) lv S) : RU D Wd p l e d s m args below meth c A nL Qf X (pc) (.int x :: st) lv S := fun r S' hX H locs ls hP hD hS hl => lv_lookup C.1 C.2.1 hd hp ho ht (k r S' hX H locs ls hP hD hS hl)
theorem R_get (C : CX D tys p s m args meth c A cc nL own ret) {ref CC : String} {T : u_T} {N ci index b : Nat} (hin : ∀ w ∈ u_ws CC T N, w ∈ tbG) (q0 : Nat) {fs : List Value} (he : (Wd S)[q0]? = some (b, .inr (ci, fs))) (hc : vwCl[ci]? = some (CC, T, N)) (k0 : Nat) (hk : k0 < N) (hlink : Cond.fieldLink own index ref (T k0).2.1 (T k0).2.2.1 ∈ tbG) (hsame : (T k0).1 = ref) {v : Value} (hv : fs[k0]? = some v) (hd : decode cc pc = .ok (.getfield index, 3)) (k : RU D Wd p l e d s m args below meth c A nL Qf X (pc+3) (v :: st) lv S) : RU D Wd p l e d s m args below meth c A nL Qf X (pc) (.ref b :: st) lv S := fun r S' hX H locs ls hP hD hS hl => va_get C.1 C.2.1 C.2.2.2.2.2.1 hin C.2.2.2.2.1 C.2.2.2.2.2.2.2.1 hP q0 he hc k0 hk (C.2.2.2.2.2.1 _ hlink) (fun _ h => by rw [← hsame]; exact h) hv hd (k r S' hX H locs ls hP hD hS hl)
theorem R_put (C : CX D tys p s m args meth c A cc nL own ret) {ref CC : String} {T : u_T} {N ci index b : Nat} (hin : ∀ w ∈ u_ws CC T N, w ∈ tbG) (ty0 : Nat → FieldType) (hty : ∀ k, k < N → parseFieldDescriptor (T k).2.2.1 = some (ty0 k)) (hnm : ∀ a, a < N → ∀ b, b < N → a ≠ b → (T a).2.1 ≠ (T b).2.1) (q0 : Nat) {fs : List Value} (he : (Wd S)[q0]? = some (b, .inr (ci, fs))) (hc : vwCl[ci]? = some (CC, T, N)) (k0 : Nat) (hk : k0 < N) (hlink : Cond.fieldLink own index ref (T k0).2.1 (T k0).2.2.1 ∈ tbG) (hsame : (T k0).1 = ref) (hfin : (T k0).2.2.2 = false) {x : Int32} (hd0 : parseFieldDescriptor (T k0).2.2.1 = some .int) (hl0 : k0 < fs.length) {S1 : St} (hset : (Wd S).set q0 (b, .inr (ci, fs.set k0 (.int x))) = Wd S1) (hd : decode cc pc = .ok (.putfield index, 3)) (k : RU D Wd p l e d s m args below meth c A nL Qf X (pc+3) (st) lv S1) : RU D Wd p l e d s m args below meth c A nL Qf X (pc) (.int x :: .ref b :: st) lv S := fun r S' hX H locs ls hP hD hS hl => va_put C.1 C.2.1 C.2.2.2.2.2.1 hin ty0 hty hnm C.2.2.2.2.1 C.2.2.2.2.2.2.2.1 hP hD hS q0 he hc k0 hk (C.2.2.2.2.2.1 _ hlink) (fun _ h => by rw [← hsame]; exact h) hfin hd0 rfl rfl hl0 hd (fun H1 locs1 hP1 hD1 hS1 => k r S' hX H1 locs1 ls (by rw [← hset]; exact hP1) (by rw [← hset]; exact hD1) hS1 hl)
theorem R_iald (C : CX D tys p s m args meth c A cc nL own ret) {b : Nat} (q0 t0 : Nat) {cA : ClassId} {n : Nat} {f : Nat → Int32} (ha : (Wd S)[q0]? = some (b, .inl (cA, n, .inl f))) (ht : tys[t0]? = some (cA, .int)) {i : Int32} (hd : decode cc pc = .ok (.iaload, 1)) (k : RU D Wd p l e d s m args below meth c A nL Qf X (pc+1) (.int (f (ix i)) :: st) lv S) : RU D Wd p l e d s m args below meth c A nL Qf (gA (inb i n) X) (pc) (.int i :: .ref b :: st) lv S := fun r S' hX H locs ls hP hD hS hl => va_iald C.1 C.2.1 C.2.2.2.2.2.2.2.1 hP q0 t0 ha ht (inb_vp (gA_t hX).1) hd (k r S' (gA_t hX).2 H locs ls hP hD hS hl)
theorem R_zald (C : CX D tys p s m args meth c A cc nL own ret) {b : Nat} (q0 t0 : Nat) {cA : ClassId} {n : Nat} {f : Nat → Int32} (ha : (Wd S)[q0]? = some (b, .inl (cA, n, .inl f))) (ht : tys[t0]? = some (cA, .boolean)) {i : Int32} (hd : decode cc pc = .ok (.baload, 1)) (k : RU D Wd p l e d s m args below meth c A nL Qf X (pc+1) (.int (f (ix i)) :: st) lv S) : RU D Wd p l e d s m args below meth c A nL Qf (gA (inb i n) X) (pc) (.int i :: .ref b :: st) lv S := fun r S' hX H locs ls hP hD hS hl => va_zald C.1 C.2.1 C.2.2.2.2.2.2.2.1 hP q0 t0 ha ht (inb_vp (gA_t hX).1) hd (k r S' (gA_t hX).2 H locs ls hP hD hS hl)
theorem R_iast (C : CX D tys p s m args meth c A cc nL own ret) {b : Nat} (q0 t0 : Nat) {cA : ClassId} {n : Nat} {f : Nat → Int32} (ha : (Wd S)[q0]? = some (b, .inl (cA, n, .inl f))) (ht : tys[t0]? = some (cA, .int)) {i x : Int32} {S1 : St} (hset : (Wd S).set q0 (b, .inl (cA, n, .inl (upd f (ix i) x))) = Wd S1) (hd : decode cc pc = .ok (.iastore, 1)) (k : RU D Wd p l e d s m args below meth c A nL Qf X (pc+1) (st) lv S1) : RU D Wd p l e d s m args below meth c A nL Qf (gA (inb i n) X) (pc) (.int x :: .int i :: .ref b :: st) lv S := fun r S' hX H locs ls hP hD hS hl => va_iast C.1 C.2.1 C.2.2.2.2.2.2.2.1 hP hD hS q0 t0 ha ht (inb_vp (gA_t hX).1) hd (fun H1 locs1 hP1 hD1 hS1 => k r S' (gA_t hX).2 H1 locs1 ls (by rw [← hset]; exact hP1) (by rw [← hset]; exact hD1) hS1 hl)
theorem R_zast (C : CX D tys p s m args meth c A cc nL own ret) {b : Nat} (q0 t0 : Nat) {cA : ClassId} {n : Nat} {f : Nat → Int32} (ha : (Wd S)[q0]? = some (b, .inl (cA, n, .inl f))) (ht : tys[t0]? = some (cA, .boolean)) {i x : Int32} {S1 : St} (hset : (Wd S).set q0 (b, .inl (cA, n, .inl (upd f (ix i) x))) = Wd S1) (hd : decode cc pc = .ok (.bastore, 1)) (k : RU D Wd p l e d s m args below meth c A nL Qf X (pc+1) (st) lv S1) : RU D Wd p l e d s m args below meth c A nL Qf (gA (inb i n) (gA (b01 x) X)) (pc) (.int x :: .int i :: .ref b :: st) lv S := fun r S' hX H locs ls hP hD hS hl => va_zast C.1 C.2.1 C.2.2.2.2.2.2.2.1 hP hD hS q0 t0 ha ht (inb_vp (gA_t hX).1) hd (fun H1 locs1 hP1 hD1 hS1 => k r S' (gA_t (gA_t hX).2).2 H1 locs1 ls (by rw [← hset]; rw [vp_nar_b (gA_t (gA_t hX).2).1] at hP1; exact hP1) (by rw [← hset]; rw [vp_nar_b (gA_t (gA_t hX).2).1] at hD1; exact hD1) hS1 hl)
theorem R_alen (C : CX D tys p s m args meth c A cc nL own ret) {b : Nat} (q0 t0 : Nat) {cA : ClassId} {x : vp_A} {ty : FieldType} (ha : (Wd S)[q0]? = some (b, .inl (cA, x))) (ht : tys[t0]? = some (cA, ty)) {v : Int32} (hv : Int32.ofNat x.1 = v) (hd : decode cc pc = .ok (.arraylength, 1)) (k : RU D Wd p l e d s m args below meth c A nL Qf X (pc+1) (.int v :: st) lv S) : RU D Wd p l e d s m args below meth c A nL Qf X (pc) (.ref b :: st) lv S := fun r S' hX H locs ls hP hD hS hl => va_alen C.1 C.2.1 C.2.2.2.2.2.2.2.1 hP q0 t0 ha ht hv hd (k r S' hX H locs ls hP hD hS hl)
theorem R_mmax (C : CX D tys p s m args meth c A cc nL own ret) {index : Nat} (hlink : Cond.methodLink own index Lib.Math.max.name ∈ tbG) (hstat : Cond.static Lib.Math.max.name ∈ tbG) (hini : Cond.initialized "java/lang/Math" ∈ tbG) (hcode : Cond.code Lib.Math.max.name Lib.Math.max.code 2 (some .int) ∈ tbG) (h1 : 1 ≤ d) (h2 : (st.map fun v => v.category).sum + 13 ≤ 60) {x y : Int32} (hd : decode cc pc = .ok (.invokestatic index, 3)) (k : RU D Wd p l e d s m args below meth c A nL Qf X (pc+3) (.int (if x < y then y else x) :: st) lv S) : RU D Wd p l e d s m args below meth c A nL Qf X (pc) (.int y :: .int x :: st) lv S := fun r S' hX H locs ls hP hD hS hl => va_mmax C.1 C.2.1 (by rw [C.2.2.2.1]; exact hl.1.symm) C.2.2.2.2.1 (C.2.2.2.2.2.1 _ hlink) (C.2.2.2.2.2.1 _ hstat) (C.2.2.2.2.2.1 _ hini) (C.2.2.2.2.2.1 _ hcode) h1 (by show _ ≤ 60 * d; omega) (Nat.le_refl _) (Nat.le_refl _) hd (k r S' hX H locs ls hP hD hS hl)
theorem R_mmin (C : CX D tys p s m args meth c A cc nL own ret) {index : Nat} (hlink : Cond.methodLink own index Lib.Math.min.name ∈ tbG) (hstat : Cond.static Lib.Math.min.name ∈ tbG) (hini : Cond.initialized "java/lang/Math" ∈ tbG) (hcode : Cond.code Lib.Math.min.name Lib.Math.min.code 2 (some .int) ∈ tbG) (h1 : 1 ≤ d) (h2 : (st.map fun v => v.category).sum + 13 ≤ 60) {x y : Int32} (hd : decode cc pc = .ok (.invokestatic index, 3)) (k : RU D Wd p l e d s m args below meth c A nL Qf X (pc+3) (.int (if y < x then y else x) :: st) lv S) : RU D Wd p l e d s m args below meth c A nL Qf X (pc) (.int y :: .int x :: st) lv S := fun r S' hX H locs ls hP hD hS hl => va_mmin C.1 C.2.1 (by rw [C.2.2.2.1]; exact hl.1.symm) C.2.2.2.2.1 (C.2.2.2.2.2.1 _ hlink) (C.2.2.2.2.2.1 _ hstat) (C.2.2.2.2.2.1 _ hini) (C.2.2.2.2.2.1 _ hcode) h1 (by show _ ≤ 60 * d; omega) (Nat.le_refl _) (Nat.le_refl _) hd (k r S' hX H locs ls hP hD hS hl)
theorem R_copy (C : CX D tys p s m args meth c A cc nL own ret) {index b a0 : Nat} (hlink : Cond.methodLink own index arraycopyName ∈ tbG) (hnat : Cond.native arraycopyName ∈ tbG) (hstat : Cond.static arraycopyName ∈ tbG) (hini : Cond.initialized "java/lang/System" ∈ tbG) (h1 : 1 ≤ d) (h2 : (st.map fun v => v.category).sum + (nativeFrameWords "java/lang/System" "arraycopy" 5 + 11) ≤ 60) (q0 q1 t0 : Nat) {cA : ClassId} {n : Nat} {f g : Nat → Int32} (ha0 : (Wd S)[q0]? = some (a0, .inl (cA, n, .inl f))) (ha1 : (Wd S)[q1]? = some (b, .inl (cA, n, .inl g))) (ht : tys[t0]? = some (cA, .int)) {k0 : Int32} (hk0 : ¬ k0 < 0) (hk : (0 : Int32).toNatClampNeg + k0.toNatClampNeg ≤ n) {S1 : St} (hset : (Wd S).set q1 (b, .inl (cA, n, .inl (va_cpy f g (0 : Int32).toNatClampNeg (0 : Int32).toNatClampNeg k0.toNatClampNeg))) = Wd S1) (hd : decode cc pc = .ok (.invokestatic index, 3)) (k : RU D Wd p l e d s m args below meth c A nL Qf X (pc+3) (st) lv S1) : RU D Wd p l e d s m args below meth c A nL Qf X (pc) (.int k0 :: .int 0 :: .ref b :: .int 0 :: .ref a0 :: st) lv S := fun r S' hX H locs ls hP hD hS hl => va_copyi C.1 C.2.1 (by rw [C.2.2.2.1]; exact hl.1.symm) C.2.2.2.2.1 (C.2.2.2.2.2.1 _ hlink) (C.2.2.2.2.2.1 _ hnat) (C.2.2.2.2.2.1 _ hstat) (C.2.2.2.2.2.1 _ hini) C.2.2.2.2.2.2.2.1 hP hD hS q0 q1 t0 t0 ha0 ha1 ht ht rfl (by decide) (by decide) hk0 hk hk (fun _ _ => rfl) h1 (by show _ ≤ 60 * d; omega) hd (fun H1 locs1 hP1 hD1 hS1 => k r S' hX H1 locs1 ls (by rw [← hset]; exact hP1) (by rw [← hset]; exact hD1) hS1 hl)
/-- returns -/
theorem R_reti (C : CX D tys p s m args meth c A cc nL own (some .int)) {r0 : Int32} (hd : decode cc pc = .ok (.ireturn, 1)) : RU D Wd p l e d s m args below meth c A nL (QI D Wd tys A) (some (r0, S)) pc [.int r0] lv S := fun r S' hX H locs ls hP hD hS hl => by
  cases hX
  exact W.iret C.1 C.2.1 C.2.2.1 (fun t ht hW => ⟨⟨r0, (), rfl, rfl, by rw [ht]; exact hP, va_K.moved hW.alike C.2.2.2.2.2.2.2.1, hD⟩, hS.F ht⟩) hS.2.2 hd (hlocks := C.2.2.2.2.2.2.1)
theorem R_retz (C : CX D tys p s m args meth c A cc nL own (some .boolean)) {r0 : Int32} (hd : decode cc pc = .ok (.ireturn, 1)) : RU D Wd p l e d s m args below meth c A nL (QI D Wd tys A) (gA (b01 r0) (some (r0, S))) pc [.int r0] lv S := fun r S' hX H locs ls hP hD hS hl => by
  obtain ⟨h1, hX⟩ := gA_t hX
  cases hX
  exact W.zret C.1 C.2.1 C.2.2.1 (nar_b h1) (fun t ht hW => ⟨⟨r0, (), rfl, rfl, by rw [ht]; exact hP, va_K.moved hW.alike C.2.2.2.2.2.2.2.1, hD⟩, hS.F ht⟩) hS.2.2 hd (hlocks := C.2.2.2.2.2.2.1)
theorem R_retv (C : CX D tys p s m args meth c A cc nL own none) (hd : decode cc pc = .ok (.return_, 1)) : RU D Wd p l e d s m args below meth c A nL (QV D Wd tys A) (some (0, S)) pc [] lv S := fun r S' hX H locs ls hP hD hS hl => by
  cases hX
  exact W.vret C.1 C.2.1 C.2.2.1 (fun t ht hW => ⟨⟨(), rfl, trivial, by rw [ht]; exact hP, va_K.moved hW.alike C.2.2.2.2.2.2.2.1, hD⟩, hS.F ht⟩) hS.2.2 hd (hlocks := C.2.2.2.2.2.2.1)
/-- calls -/
theorem frA {W1 : va_W} {H0 H : Heap} {locs : List Loc} (hD : va_D A W1) (hS : va_S A H0 H locs) (hA : ∀ q, H0.size ≤ q → A q) : ∀ q, va_A W1 H.size q → A q := fun q h => h.elim (fun ⟨k, e, h⟩ => hD.2 k (q, e) h) (fun h => hA q (Nat.le_trans hS.1 h))
theorem pre_blind (av : List Value) (sz : Nat) : FrameBlind (va_Pc av (PRE D Wd tys sz S)) := fun a U g mk q => by
  obtain ⟨q0, q1, qP, qK, qD⟩ := q
  exact ⟨q0, q1, qP, va_K.moved (u := U) (U := U.calling g mk a) (Vm.Alike.refl U.vm) qK, qD⟩
def KW (CC : String) (y : MethodName) (cw : Cond) (n : Nat) : Prop := (Cond.instanceMethod y ∈ tbG ∧ Cond.selects CC y y ∈ tbG ∧ Cond.initialized CC ∈ tbG ∧ cw ∈ tbG) ∧ (y.cls = CC ∧ y.cls ≠ "java/lang/invoke/MethodHandle" ∧ y.cls ≠ "java/lang/invoke/VarHandle" ∧ (parseMethodDescriptor y.desc).map (fun d => d.parameters.length) = some n)
def KS (y : MethodName) (cw : Cond) (n : Nat) : Prop := (Cond.static y ∈ tbG ∧ Cond.initialized y.cls ∈ tbG ∧ cw ∈ tbG) ∧ (y.cls ≠ "java/lang/invoke/MethodHandle" ∧ y.cls ≠ "java/lang/invoke/VarHandle" ∧ (parseMethodDescriptor y.desc).map (fun d => d.parameters.length) = some n)
theorem KW_in {CC : String} {y : MethodName} {cw : Cond} {n index : Nat} (h : KW CC y cw n) (hl : Cond.methodLink own index y ∈ tbG) : GoodIn tbG (wsV own index CC y (cw :: tbG)) := tb_in (fun w hw => by
  simp only [wsV, List.mem_append, List.mem_cons, List.not_mem_nil, or_false] at hw
  rcases hw with (rfl | rfl | rfl | rfl) | rfl | hw
  · exact hl
  · exact h.1.1
  · exact h.1.2.1
  · exact h.1.2.2.1
  · exact h.1.2.2.2
  · exact hw)
theorem KS_in {y : MethodName} {cw : Cond} {n index : Nat} (h : KS y cw n) (hl : Cond.methodLink own index y ∈ tbG) : GoodIn tbG (va_wsS own index y (cw :: tbG)) := tb_in (fun w hw => by
  simp only [va_wsS, List.mem_append, List.mem_cons, List.not_mem_nil, or_false] at hw
  rcases hw with (rfl | rfl | rfl) | rfl | hw
  · exact hl
  · exact h.1.1
  · exact h.1.2.1
  · exact h.1.2.2
  · exact hw)
theorem R_calli (C : CX D tys p s m args meth c A cc nL own ret) {y : MethodName} {bytes : ByteArray} {maxL n index d' : Nat} {rt : Option FieldType} {CC : String} {T : u_T} {N ci b : Nat} {fs : List Value} {As st0 : List Value} {F : Rs} {Z : Int32 → St → Rs} (hM : CI l D Wd tys y (.code y bytes maxL rt) d' (.ref b :: As) F S) (hd' : d' + 1 ≤ d) (hmx : maxL ≤ 40) (hlink : Cond.methodLink own index y ∈ tbG) (hK : KW CC y (.code y bytes maxL rt) n) (q0 : Nat) (he : (Wd S)[q0]? = some (b, .inr (ci, fs))) (hc : vwCl[ci]? = some (CC, T, N)) (hn : As.length = n) (hst : st0 = As.reverse ++ .ref b :: st) (hW : (st.map fun v => v.category).sum ≤ 8) (hd : decode cc pc = .ok (.invokevirtual index, 3)) (k : ∀ (r1 : Int32) (S1 : St), RU D Wd p l e d s m args below meth c A nL Qf (Z r1 S1) (pc+3) (.int r1 :: st) lv S1) : RU D Wd p l e d s m args below meth c A nL Qf (Bd F Z) pc st0 lv S := fun r S' hX H locs ls hP hD hS hl => by
  obtain ⟨r1, S1, h1, h2⟩ := Bd_t hX
  subst hst
  have hF := frA hD hS C.2.2.2.2.2.2.2.2
  refine va_calli (va_runV (As := As) (rest := st) ⟨C.1, C.2.1, C.2.2.2.1, C.2.2.2.2.1, C.2.2.2.2.2.1⟩ (hM r1 S1 h1 H.size) (cwV n C.2.2.2.2.2.1 (KW_in hK hlink) rfl rfl rfl hK.2 ⟨hd', by show 8 + (maxL + 11) + 60 * d' ≤ 60 * d; omega⟩) ⟨pre_blind _ _, va_recv C.2.2.2.2.2.2.2.1 hP hc he, fun U hU hWm => ⟨rfl, by rw [hU], by rw [hU]; exact hP, va_K.moved hWm.alike C.2.2.2.2.2.2.2.1, hD.weaken (fun _ _ _ _ => trivial)⟩⟩ rfl hn hl.1 rfl (lv_room hW) hd ⟨Nat.le_refl _, Nat.le_refl _⟩) hS (fun q _ h => hF q h) hF (fun r' u t H1 locs1 ht hvm hw hB hz1 hk1 hS1 => ?_)
  subst hw
  obtain ⟨hP1, hK1, hD1⟩ := hB
  rw [ht] at hP1
  exact k r' S1 r S' h2 H1 locs1 ls hP1 (hD1.weaken (fun _ q _ h => hF q.1 h)) hS1 hl
theorem R_callv (C : CX D tys p s m args meth c A cc nL own ret) {y : MethodName} {bytes : ByteArray} {maxL n index d' : Nat} {rt : Option FieldType} {CC : String} {T : u_T} {N ci b : Nat} {fs : List Value} {As st0 : List Value} {F : Rs} {Z : Int32 → St → Rs} (hM : CV l D Wd tys y (.code y bytes maxL rt) d' (.ref b :: As) F S) (hd' : d' + 1 ≤ d) (hmx : maxL ≤ 40) (hlink : Cond.methodLink own index y ∈ tbG) (hK : KW CC y (.code y bytes maxL rt) n) (q0 : Nat) (he : (Wd S)[q0]? = some (b, .inr (ci, fs))) (hc : vwCl[ci]? = some (CC, T, N)) (hn : As.length = n) (hst : st0 = As.reverse ++ .ref b :: st) (hW : (st.map fun v => v.category).sum ≤ 8) (hd : decode cc pc = .ok (.invokevirtual index, 3)) (k : ∀ (r1 : Int32) (S1 : St), RU D Wd p l e d s m args below meth c A nL Qf (Z r1 S1) (pc+3) (st) lv S1) : RU D Wd p l e d s m args below meth c A nL Qf (Bd F Z) pc st0 lv S := fun r S' hX H locs ls hP hD hS hl => by
  obtain ⟨r1, S1, h1, h2⟩ := Bd_t hX
  subst hst
  have hF := frA hD hS C.2.2.2.2.2.2.2.2
  refine va_callv (va_runV (As := As) (rest := st) ⟨C.1, C.2.1, C.2.2.2.1, C.2.2.2.2.1, C.2.2.2.2.2.1⟩ (hM r1 S1 h1 H.size) (cwV n C.2.2.2.2.2.1 (KW_in hK hlink) rfl rfl rfl hK.2 ⟨hd', by show 8 + (maxL + 11) + 60 * d' ≤ 60 * d; omega⟩) ⟨pre_blind _ _, va_recv C.2.2.2.2.2.2.2.1 hP hc he, fun U hU hWm => ⟨rfl, by rw [hU], by rw [hU]; exact hP, va_K.moved hWm.alike C.2.2.2.2.2.2.2.1, hD.weaken (fun _ _ _ _ => trivial)⟩⟩ rfl hn hl.1 rfl (lv_room hW) hd ⟨Nat.le_refl _, Nat.le_refl _⟩) hS (fun q _ h => hF q h) hF (fun u t H1 locs1 ht hvm hw hB hz1 hk1 hS1 => ?_)
  obtain ⟨hP1, hK1, hD1⟩ := hB
  rw [ht] at hP1
  exact k r1 S1 r S' h2 H1 locs1 ls hP1 (hD1.weaken (fun _ q _ h => hF q.1 h)) hS1 hl
theorem R_calls (C : CX D tys p s m args meth c A cc nL own ret) {y : MethodName} {bytes : ByteArray} {maxL n index d' : Nat} {rt : Option FieldType} {As st0 : List Value} {F : Rs} {Z : Int32 → St → Rs} (hM : CI l D Wd tys y (.code y bytes maxL rt) d' As F S) (hd' : d' + 1 ≤ d) (hmx : maxL ≤ 40) (hlink : Cond.methodLink own index y ∈ tbG) (hK : KS y (.code y bytes maxL rt) n) (hn : As.length = n) (hst : st0 = As.reverse ++ st) (hW : (st.map fun v => v.category).sum ≤ 8) (hd : decode cc pc = .ok (.invokestatic index, 3)) (k : ∀ (r1 : Int32) (S1 : St), RU D Wd p l e d s m args below meth c A nL Qf (Z r1 S1) (pc+3) (.int r1 :: st) lv S1) : RU D Wd p l e d s m args below meth c A nL Qf (Bd F Z) pc st0 lv S := fun r S' hX H locs ls hP hD hS hl => by
  obtain ⟨r1, S1, h1, h2⟩ := Bd_t hX
  subst hst
  have hF := frA hD hS C.2.2.2.2.2.2.2.2
  refine va_calli (va_runS (As := As) (rest := st) ⟨C.1, C.2.1, C.2.2.2.1, C.2.2.2.2.1, C.2.2.2.2.2.1⟩ (hM r1 S1 h1 H.size) (va_cwS n C.2.2.2.2.2.1 (KS_in hK hlink) rfl rfl rfl hK.2 ⟨hd', by show 8 + (maxL + 11) + 60 * d' ≤ 60 * d; omega⟩) ⟨pre_blind _ _, fun U hU hWm => ⟨rfl, by rw [hU], by rw [hU]; exact hP, va_K.moved hWm.alike C.2.2.2.2.2.2.2.1, hD.weaken (fun _ _ _ _ => trivial)⟩⟩ rfl hn hl.1 rfl (lv_room hW) hd ⟨Nat.le_refl _, Nat.le_refl _⟩) hS (fun q _ h => hF q h) hF (fun r' u t H1 locs1 ht hvm hw hB hz1 hk1 hS1 => ?_)
  subst hw
  obtain ⟨hP1, hK1, hD1⟩ := hB
  rw [ht] at hP1
  exact k r' S1 r S' h2 H1 locs1 ls hP1 (hD1.weaken (fun _ q _ h => hF q.1 h)) hS1 hl
theorem R_callsv (C : CX D tys p s m args meth c A cc nL own ret) {y : MethodName} {bytes : ByteArray} {maxL n index d' : Nat} {rt : Option FieldType} {As st0 : List Value} {F : Rs} {Z : Int32 → St → Rs} (hM : CV l D Wd tys y (.code y bytes maxL rt) d' As F S) (hd' : d' + 1 ≤ d) (hmx : maxL ≤ 40) (hlink : Cond.methodLink own index y ∈ tbG) (hK : KS y (.code y bytes maxL rt) n) (hn : As.length = n) (hst : st0 = As.reverse ++ st) (hW : (st.map fun v => v.category).sum ≤ 8) (hd : decode cc pc = .ok (.invokestatic index, 3)) (k : ∀ (r1 : Int32) (S1 : St), RU D Wd p l e d s m args below meth c A nL Qf (Z r1 S1) (pc+3) (st) lv S1) : RU D Wd p l e d s m args below meth c A nL Qf (Bd F Z) pc st0 lv S := fun r S' hX H locs ls hP hD hS hl => by
  obtain ⟨r1, S1, h1, h2⟩ := Bd_t hX
  subst hst
  have hF := frA hD hS C.2.2.2.2.2.2.2.2
  refine va_callv (va_runS (As := As) (rest := st) ⟨C.1, C.2.1, C.2.2.2.1, C.2.2.2.2.1, C.2.2.2.2.2.1⟩ (hM r1 S1 h1 H.size) (va_cwS n C.2.2.2.2.2.1 (KS_in hK hlink) rfl rfl rfl hK.2 ⟨hd', by show 8 + (maxL + 11) + 60 * d' ≤ 60 * d; omega⟩) ⟨pre_blind _ _, fun U hU hWm => ⟨rfl, by rw [hU], by rw [hU]; exact hP, va_K.moved hWm.alike C.2.2.2.2.2.2.2.1, hD.weaken (fun _ _ _ _ => trivial)⟩⟩ rfl hn hl.1 rfl (lv_room hW) hd ⟨Nat.le_refl _, Nat.le_refl _⟩) hS (fun q _ h => hF q h) hF (fun u t H1 locs1 ht hvm hw hB hz1 hk1 hS1 => ?_)
  obtain ⟨hP1, hK1, hD1⟩ := hB
  rw [ht] at hP1
  exact k r1 S1 r S' h2 H1 locs1 ls hP1 (hD1.weaken (fun _ q _ h => hF q.1 h)) hS1 hl
end RW
/-- a contract out of a walk from the entry -/
theorem CI_of {l : Launch} {D : va_G} {Wd : St → va_W} {tys : List (ClassId × FieldType)} {y : MethodName} {bytes : ByteArray} {maxL d : Nat} {rt : FieldType} {av : List Value} {X : Rs} {S : St} (hy : plainName y.cls = true) (hlen : (lg_sl av).length ≤ maxL) (body : ∀ (p : Program) (e : Env) (s : State) (m : MethodId) (args : Array Value) (below : List Frame) (meth : Method) (c : Code) (A : Nat → Prop), CX D tys p s m args meth c A bytes maxL y.cls (some rt) → RU D Wd p l e d s m args below meth c A maxL (QI D Wd tys A) X 0 [] (lv_args 0 av) S) : CI l D Wd tys y (.code y bytes maxL (some rt)) d av X S := by
  intro r S' hX sz
  refine Met.ofW (cc := bytes) (maxL := maxL) (ret := some rt) hy rfl ?_
  intro p e s m args below meth c s₁ B hml hv
  obtain ⟨rfl, hsz, hP, hK, hD0⟩ := hv
  subst hsz
  have hD := hD0.self (sz := s.heap.size)
  have hl := lv_entry av (n := maxL) hlen
  have hts := atoms_spec (ws := .code y bytes maxL (some rt) :: tbG) B.pre
  rw [lg_entry_eq]
  exact body p e s m _ below meth c _ ⟨B.exec, B.bytes, B.returns, hml, findClass_of_methodNamed B.named, fun w hw => hts w (List.mem_cons_of_mem _ hw), B.notSynchronized, hK, fun q h => Or.inr h⟩ r S' hX s.heap [] _ hP hD va_S.rf hl
theorem CV_of {l : Launch} {D : va_G} {Wd : St → va_W} {tys : List (ClassId × FieldType)} {y : MethodName} {bytes : ByteArray} {maxL d : Nat} {av : List Value} {X : Rs} {S : St} (hy : plainName y.cls = true) (hlen : (lg_sl av).length ≤ maxL) (body : ∀ (p : Program) (e : Env) (s : State) (m : MethodId) (args : Array Value) (below : List Frame) (meth : Method) (c : Code) (A : Nat → Prop), CX D tys p s m args meth c A bytes maxL y.cls none → RU D Wd p l e d s m args below meth c A maxL (QV D Wd tys A) X 0 [] (lv_args 0 av) S) : CV l D Wd tys y (.code y bytes maxL none) d av X S := by
  intro r S' hX sz
  refine Met.ofW (cc := bytes) (maxL := maxL) (ret := none) hy rfl ?_
  intro p e s m args below meth c s₁ B hml hv
  obtain ⟨rfl, hsz, hP, hK, hD0⟩ := hv
  subst hsz
  have hD := hD0.self (sz := s.heap.size)
  have hl := lv_entry av (n := maxL) hlen
  have hts := atoms_spec (ws := .code y bytes maxL none :: tbG) B.pre
  rw [lg_entry_eq]
  exact body p e s m _ below meth c _ ⟨B.exec, B.bytes, B.returns, hml, findClass_of_methodNamed B.named, fun w hw => hts w (List.mem_cons_of_mem _ hw), B.notSynchronized, hK, fun q h => Or.inr h⟩ r S' hX s.heap [] _ hP hD va_S.rf hl
end
section
/-! the pure programs, a method each, printed by wip/whole/gen/gen.py -/
def fJ7_fill_53178_5_b (k5 : Int32 → Int32 → Int32 → St → Rs) (v1 v2 v3 : Int32) (S : St) : Rs :=
  if v3 ≤ v2 then (
  some (0, S))
  else (
  gA (inb v2 8) (
  LtS (sA S 13 (ix v2) v1) fun S1 =>
  k5 v1 (v2 + 1) v3 S1))
def fJ7_fill_53178_5 : Nat → Int32 → Int32 → Int32 → St → Rs
  | 0 => fun _ _ _ _ => none
  | n + 1 => fJ7_fill_53178_5_b (fJ7_fill_53178_5 n)
def fJ7_fill_53178 (v1 : Int32) (S : St) : Rs :=
  fJ7_fill_53178_5 FU v1 (0 : Int32) (8 : Int32) S
def fX6_isPoint_15 (t0 : Int32) (S : St) : Rs :=
  gA (b01 t0) (some (t0, S))
def fX6_isPoint_14 (S : St) : Rs :=
  fX6_isPoint_15 (0 : Int32) S
def fX6_isPoint (v0 : Int32) (S : St) : Rs :=
  if v0 < 0 then (
  fX6_isPoint_14 S)
  else (
  if (40 : Int32) ≤ v0 then (
  fX6_isPoint_14 S)
  else (
  fX6_isPoint_15 (1 : Int32) S))
def fX4_addLine (v1 v2 : Int32) (S : St) : Rs :=
  Lt (S.1 3) fun x1 =>
  gA (inb x1 300) (
  LtS (sA S 1 (ix x1) v1) fun S2 =>
  gA (inb x1 300) (
  LtS (sA S2 2 (ix x1) v2) fun S3 =>
  gA (inb x1 300) (
  LtS (sA S3 3 (ix x1) (-1 : Int32)) fun S4 =>
  LtS (sF S4 3 ((S4.1 3) + (1 : Int32))) fun S5 =>
  some (x1, S5))))
def fX1_roomFor (v1 : Int32) (S : St) : Rs :=
  Lt ((100 : Int32) * (S.1 2)) fun x1 =>
  if 0 < x1 then (
  gA (nz x1) (
  some ((((v1 * ((100 : Int32) + (S.1 7))) + x1) - (1 : Int32)) / x1, S)))
  else (
  some ((0 : Int32), S))
def fX4_greatestLoad_4_b (k4 : Int32 → Int32 → St → Rs) (v1 v2 : Int32) (S : St) : Rs :=
  if (S.1 2) ≤ v2 then (
  some (v1, S))
  else (
  gA (inb v2 8) (
  Lt (if v1 < (S.2 4 (ix v2)) then (S.2 4 (ix v2)) else v1) fun x1 =>
  k4 x1 (v2 + 1) S))
def fX4_greatestLoad_4 : Nat → Int32 → Int32 → St → Rs
  | 0 => fun _ _ _ => none
  | n + 1 => fX4_greatestLoad_4_b (fX4_greatestLoad_4 n)
def fX4_greatestLoad (S : St) : Rs :=
  fX4_greatestLoad_4 FU (0 : Int32) (0 : Int32) S
def fX4_hasCopy_19 (t0 : Int32) (S : St) : Rs :=
  gA (b01 t0) (some (t0, S))
def fX4_hasCopy (v1 v2 : Int32) (S : St) : Rs :=
  gA (inb v1 40) (
  if (((S.2 6 (ix v1)) >>> (v2 &&& 31)) &&& (1 : Int32)) = (1 : Int32) then (
  fX4_hasCopy_19 (1 : Int32) S)
  else (
  fX4_hasCopy_19 (0 : Int32) S))
def fX1_scoreOfCopies_82 (v7 : Int32) (S : St) : Rs :=
  some (v7, S)
def fX1_scoreOfCopies_60 (v1 v3 v5 v6 v7 : Int32) (S : St) : Rs :=
  Bd (fX4_hasCopy v3 v1 S) fun r1 S2 =>
  if r1 = 0 then (
  fX1_scoreOfCopies_82 v7 S2)
  else (
  Lt (v7 + (v6 - v5)) fun x3 =>
  fX1_scoreOfCopies_82 x3 S2)
def fX1_scoreOfCopies (v1 v2 v3 : Int32) (S : St) : Rs :=
  gA (inb v2 40) (
  Lt ((S.2 5 (ix v2)) + (1 : Int32)) fun x1 =>
  gA (inb v3 40) (
  Lt ((S.2 5 (ix v3)) + (1 : Int32)) fun x2 =>
  Lt ((2 : Int32) * (x1 + x2)) fun x3 =>
  Bd (fX4_hasCopy v2 v1 S) fun r4 S5 =>
  if r4 = 0 then (
  fX1_scoreOfCopies_60 v1 v3 x2 x3 (0 : Int32) S5)
  else (
  Lt ((0 : Int32) + (x3 - x1)) fun x6 =>
  fX1_scoreOfCopies_60 v1 v3 x2 x3 x6 S5)))
def fX1_scoreOf_65 (t0 : Int32) (S : St) : Rs :=
  some (t0, S)
def fX1_scoreOf_64 (S : St) : Rs :=
  fX1_scoreOf_65 (0 : Int32) S
def fX1_scoreOf (v1 v2 v3 v4 : Int32) (S : St) : Rs :=
  if (S.1 6) = 0 then (
  some (v4, S))
  else (if (S.1 6) = 1 then (
  if (S.1 2) ≤ 0 then (
  fX1_scoreOf_64 S)
  else (
  gA (nz (S.1 2)) (
  if ((v2 + v3) - (v2 + v3) / (S.1 2) * (S.1 2)) = v1 then (
  fX1_scoreOf_65 (1 : Int32) S)
  else (
  fX1_scoreOf_64 S))))
  else (
  Bd (fX1_scoreOfCopies v1 v2 v3 S) fun r1 S2 =>
  some (((10 : Int32) * r1) + ((S2.1 8) * v4), S2)))
def fX1_chooseHost_105 (k32 : Int32 → Int32 → Int32 → Int32 → Int32 → Int32 → Int32 → St → Rs) (v1 v2 v3 v4 v5 v6 v7 : Int32) (S : St) : Rs :=
  k32 v1 v2 v3 v4 v5 v6 (v7 + 1) S
def fX1_chooseHost_97 (k32 : Int32 → Int32 → Int32 → Int32 → Int32 → Int32 → Int32 → St → Rs) (v1 v2 v3 v4 v7 v8 : Int32) (S : St) : Rs :=
  fX1_chooseHost_105 k32 v1 v2 v3 v4 v7 v8 v7 S
def fX1_chooseHost_32_b (k32 : Int32 → Int32 → Int32 → Int32 → Int32 → Int32 → Int32 → St → Rs) (v1 v2 v3 v4 v5 v6 v7 : Int32) (S : St) : Rs :=
  if (S.1 2) ≤ v7 then (
  some (v5, S))
  else (
  gA (inb v7 8) (
  if (S.2 4 (ix v7)) < v3 then (
  gA (inb v7 8) (
  Bd (fX1_scoreOf v7 v1 v2 (v4 - (S.2 4 (ix v7))) S) fun r1 S2 =>
  if v5 = (-1 : Int32) then (
  fX1_chooseHost_97 k32 v1 v2 v3 v4 v7 r1 S2)
  else (
  if r1 ≤ v6 then (
  fX1_chooseHost_105 k32 v1 v2 v3 v4 v5 v6 v7 S2)
  else (
  fX1_chooseHost_97 k32 v1 v2 v3 v4 v7 r1 S2))))
  else (
  fX1_chooseHost_105 k32 v1 v2 v3 v4 v5 v6 v7 S)))
def fX1_chooseHost_32 : Nat → Int32 → Int32 → Int32 → Int32 → Int32 → Int32 → Int32 → St → Rs
  | 0 => fun _ _ _ _ _ _ _ _ => none
  | n + 1 => fX1_chooseHost_32_b (fX1_chooseHost_32 n)
def fX1_chooseHost (v1 v2 : Int32) (S : St) : Rs :=
  Bd (fX1_roomFor ((S.1 4) + (1 : Int32)) S) fun r1 S2 =>
  Bd (fX4_greatestLoad S2) fun r3 S4 =>
  fX1_chooseHost_32 FU v1 v2 r1 r3 (-1 : Int32) (0 : Int32) (0 : Int32) S4
def fX4_hasHost_17 (t0 : Int32) (S : St) : Rs :=
  gA (b01 t0) (some (t0, S))
def fX4_hasHost_16 (S : St) : Rs :=
  fX4_hasHost_17 (0 : Int32) S
def fX4_hasHost (v1 : Int32) (S : St) : Rs :=
  if v1 < 0 then (
  fX4_hasHost_16 S)
  else (
  if (S.1 2) ≤ v1 then (
  fX4_hasHost_16 S)
  else (
  fX4_hasHost_17 (1 : Int32) S))
def fX4_putEnd_62 (S : St) : Rs :=
  some (0, S)
def fX4_putEnd (v1 v2 : Int32) (S : St) : Rs :=
  gA (inb v1 40) (
  gA (inb v1 40) (
  LtS (sA S 5 (ix v1) ((S.2 5 (ix v1)) + (1 : Int32))) fun S1 =>
  gA (inb ((v2 * (40 : Int32)) + v1) 320) (
  gA (inb ((v2 * (40 : Int32)) + v1) 320) (
  LtS (sA S1 7 (ix ((v2 * (40 : Int32)) + v1)) ((S1.2 7 (ix ((v2 * (40 : Int32)) + v1))) + (1 : Int32))) fun S2 =>
  gA (inb ((v2 * (40 : Int32)) + v1) 320) (
  if (S2.2 7 (ix ((v2 * (40 : Int32)) + v1))) = (1 : Int32) then (
  gA (inb v1 40) (
  gA (inb v1 40) (
  LtS (sA S2 6 (ix v1) ((S2.2 6 (ix v1)) ||| ((1 : Int32) <<< (v2 &&& 31)))) fun S3 =>
  LtS (sF S3 5 ((S3.1 5) + (1 : Int32))) fun S4 =>
  fX4_putEnd_62 S4)))
  else (
  fX4_putEnd_62 S2))))))
def fX4_putOn (v1 v2 : Int32) (S : St) : Rs :=
  Bd (fX4_hasHost v2 S) fun r1 S2 =>
  if r1 = 0 then (
  some (0, S2))
  else (
  gA (inb v1 300) (
  LtS (sA S2 3 (ix v1) v2) fun S3 =>
  gA (inb v2 8) (
  gA (inb v2 8) (
  LtS (sA S3 4 (ix v2) ((S3.2 4 (ix v2)) + (1 : Int32))) fun S4 =>
  LtS (sF S4 4 ((S4.1 4) + (1 : Int32))) fun S5 =>
  gA (inb v1 300) (
  Bd (fX4_putEnd (S5.2 1 (ix v1)) v2 S5) fun r6 S7 =>
  gA (inb v1 300) (
  Bd (fX4_putEnd (S7.2 2 (ix v1)) v2 S7) fun r8 S9 =>
  some (0, S9)))))))
def fX1_dealLine (v1 : Int32) (S : St) : Rs :=
  gA (inb v1 300) (
  gA (inb v1 300) (
  Bd (fX1_chooseHost (S.2 1 (ix v1)) (S.2 2 (ix v1)) S) fun r1 S2 =>
  Bd (fX4_putOn v1 r1 S2) fun r3 S4 =>
  some (r1, S4)))
def fX4_isLive_27 (t0 : Int32) (S : St) : Rs :=
  gA (b01 t0) (some (t0, S))
def fX4_isLive_26 (S : St) : Rs :=
  fX4_isLive_27 (0 : Int32) S
def fX4_isLive (v1 : Int32) (S : St) : Rs :=
  if v1 < 0 then (
  fX4_isLive_26 S)
  else (
  if (S.1 3) ≤ v1 then (
  fX4_isLive_26 S)
  else (
  gA (inb v1 300) (
  if (S.2 3 (ix v1)) = (-1 : Int32) then (
  fX4_isLive_26 S)
  else (
  fX4_isLive_27 (1 : Int32) S))))
def fX4_takeEnd_63 (S : St) : Rs :=
  some (0, S)
def fX4_takeEnd (v1 v2 : Int32) (S : St) : Rs :=
  gA (inb v1 40) (
  gA (inb v1 40) (
  LtS (sA S 5 (ix v1) ((S.2 5 (ix v1)) - (1 : Int32))) fun S1 =>
  gA (inb ((v2 * (40 : Int32)) + v1) 320) (
  gA (inb ((v2 * (40 : Int32)) + v1) 320) (
  LtS (sA S1 7 (ix ((v2 * (40 : Int32)) + v1)) ((S1.2 7 (ix ((v2 * (40 : Int32)) + v1))) - (1 : Int32))) fun S2 =>
  gA (inb ((v2 * (40 : Int32)) + v1) 320) (
  if (S2.2 7 (ix ((v2 * (40 : Int32)) + v1))) = 0 then (
  gA (inb v1 40) (
  gA (inb v1 40) (
  LtS (sA S2 6 (ix v1) ((S2.2 6 (ix v1)) &&& (((1 : Int32) <<< (v2 &&& 31)) ^^^ (-1 : Int32)))) fun S3 =>
  LtS (sF S3 5 ((S3.1 5) - (1 : Int32))) fun S4 =>
  fX4_takeEnd_63 S4)))
  else (
  fX4_takeEnd_63 S2))))))
def fX4_takeOff (v1 : Int32) (S : St) : Rs :=
  Bd (fX4_isLive v1 S) fun r1 S2 =>
  if r1 = 0 then (
  gA (b01 (0 : Int32)) (some ((0 : Int32), S2)))
  else (
  gA (inb v1 300) (
  Lt (S2.2 3 (ix v1)) fun x3 =>
  gA (inb v1 300) (
  LtS (sA S2 3 (ix v1) (-1 : Int32)) fun S4 =>
  gA (inb x3 8) (
  gA (inb x3 8) (
  LtS (sA S4 4 (ix x3) ((S4.2 4 (ix x3)) - (1 : Int32))) fun S5 =>
  LtS (sF S5 4 ((S5.1 4) - (1 : Int32))) fun S6 =>
  gA (inb v1 300) (
  Bd (fX4_takeEnd (S6.2 1 (ix v1)) x3 S6) fun r7 S8 =>
  gA (inb v1 300) (
  Bd (fX4_takeEnd (S8.2 2 (ix v1)) x3 S8) fun r9 S10 =>
  gA (b01 (1 : Int32)) (some ((1 : Int32), S10)))))))))
def fX6_keepWindow_50 (S : St) : Rs :=
  some (0, S)
def fX6_keepWindow_10_b (k10 : Int32 → St → Rs) (v1 : Int32) (S : St) : Rs :=
  if (S.1 3) ≤ v1 then (
  fX6_keepWindow_50 S)
  else (
  if (S.1 4) ≤ (S.1 0) then (
  fX6_keepWindow_50 S)
  else (
  Bd (fX4_takeOff v1 S) fun r1 S2 =>
  k10 (v1 + 1) S2))
def fX6_keepWindow_10 : Nat → Int32 → St → Rs
  | 0 => fun _ _ => none
  | n + 1 => fX6_keepWindow_10_b (fX6_keepWindow_10 n)
def fX6_keepWindow (S : St) : Rs :=
  if (S.1 0) = 0 then (
  some (0, S))
  else (
  fX6_keepWindow_10 FU (0 : Int32) S)
def fX6_line_32 (S : St) : Rs :=
  some ((-1 : Int32), S)
def fX6_line (v1 v2 : Int32) (S : St) : Rs :=
  Bd (fX6_isPoint v1 S) fun r1 S2 =>
  if r1 = 0 then (
  fX6_line_32 S2)
  else (
  Bd (fX6_isPoint v2 S2) fun r3 S4 =>
  if r3 = 0 then (
  fX6_line_32 S4)
  else (
  if v1 = v2 then (
  fX6_line_32 S4)
  else (
  if (S4.1 3) < (300 : Int32) then (
  Bd (fX4_addLine v1 v2 S4) fun r5 S6 =>
  Bd (fX1_dealLine r5 S6) fun r7 S8 =>
  Bd (fX6_keepWindow S8) fun r9 S10 =>
  some (r7, S10))
  else (
  fX6_line_32 S4))))
def fX6_rule_9 (S : St) : Rs :=
  gA (b01 (0 : Int32)) (some ((0 : Int32), S))
def fX6_rule (v1 : Int32) (S : St) : Rs :=
  if v1 < 0 then (
  fX6_rule_9 S)
  else (
  if v1 ≤ (2 : Int32) then (
  LtS (sF S 6 v1) fun S1 =>
  gA (b01 (1 : Int32)) (some ((1 : Int32), S1)))
  else (
  fX6_rule_9 S))
def fX6_isWeight_15 (t0 : Int32) (S : St) : Rs :=
  gA (b01 t0) (some (t0, S))
def fX6_isWeight_14 (S : St) : Rs :=
  fX6_isWeight_15 (0 : Int32) S
def fX6_isWeight (v0 : Int32) (S : St) : Rs :=
  if v0 < 0 then (
  fX6_isWeight_14 S)
  else (
  if (100 : Int32) < v0 then (
  fX6_isWeight_14 S)
  else (
  fX6_isWeight_15 (1 : Int32) S))
def fX6_weights_14 (S : St) : Rs :=
  gA (b01 (0 : Int32)) (some ((0 : Int32), S))
def fX6_weights (v1 v2 : Int32) (S : St) : Rs :=
  Bd (fX6_isWeight v1 S) fun r1 S2 =>
  if r1 = 0 then (
  fX6_weights_14 S2)
  else (
  Bd (fX6_isWeight v2 S2) fun r3 S4 =>
  if r3 = 0 then (
  fX6_weights_14 S4)
  else (
  LtS (sF S4 7 v1) fun S5 =>
  LtS (sF S5 8 v2) fun S6 =>
  gA (b01 (1 : Int32)) (some ((1 : Int32), S6))))
def fX6_window_11 (S : St) : Rs :=
  gA (b01 (0 : Int32)) (some ((0 : Int32), S))
def fX6_window (v1 : Int32) (S : St) : Rs :=
  if v1 < 0 then (
  fX6_window_11 S)
  else (
  if v1 ≤ (300 : Int32) then (
  LtS (sF S 0 v1) fun S1 =>
  Bd (fX6_keepWindow S1) fun r2 S3 =>
  gA (b01 (1 : Int32)) (some ((1 : Int32), S3)))
  else (
  fX6_window_11 S))
def fX6_leave (v1 : Int32) (S : St) : Rs :=
  Bd (fX4_takeOff v1 S) fun r1 S2 =>
  gA (b01 r1) (some (r1, S2))
def fX4_hasOneLineAt_20 (t0 : Int32) (S : St) : Rs :=
  gA (b01 t0) (some (t0, S))
def fX4_hasOneLineAt (v1 v2 : Int32) (S : St) : Rs :=
  gA (inb ((v2 * (40 : Int32)) + v1) 320) (
  if (S.2 7 (ix ((v2 * (40 : Int32)) + v1))) = (1 : Int32) then (
  fX4_hasOneLineAt_20 (1 : Int32) S)
  else (
  fX4_hasOneLineAt_20 (0 : Int32) S))
def fX3_keepIfBetter_46 (S : St) : Rs :=
  some (0, S)
def fX3_keepIfBetter_25 (v1 v2 v3 v4 : Int32) (S : St) : Rs :=
  LtS (sF S 9 v1) fun S1 =>
  LtS (sF S1 10 v2) fun S2 =>
  LtS (sF S2 11 v3) fun S3 =>
  LtS (sF S3 12 v4) fun S4 =>
  fX3_keepIfBetter_46 S4
def fX3_keepIfBetter (v1 v2 v3 v4 : Int32) (S : St) : Rs :=
  if v3 < (S.1 11) then (
  fX3_keepIfBetter_25 v1 v2 v3 v4 S)
  else (
  if v3 = (S.1 11) then (
  if (S.1 12) ≤ v4 then (
  fX3_keepIfBetter_46 S)
  else (
  fX3_keepIfBetter_25 v1 v2 v3 v4 S))
  else (
  fX3_keepIfBetter_46 S))
def fX3_weighMovesOf_201 (k85 : Int32 → Int32 → Int32 → Int32 → Int32 → Int32 → Int32 → St → Rs) (v1 v2 v3 v4 v5 v6 v7 : Int32) (S : St) : Rs :=
  k85 v1 v2 v3 v4 v5 v6 (v7 + 1) S
def fX3_weighMovesOf_158 (k85 : Int32 → Int32 → Int32 → Int32 → Int32 → Int32 → Int32 → St → Rs) (v1 v2 v3 v4 v5 v6 v7 t0 t1 : Int32) (S : St) : Rs :=
  Lt (t1 + t0) fun x1 =>
  gA (inb v7 8) (
  gA (inb v3 8) (
  Lt ((2 : Int32) * (((S.2 4 (ix v7)) - (S.2 4 (ix v3))) + (1 : Int32))) fun x2 =>
  Bd (fX3_keepIfBetter v1 v7 (x1 - v6) x2 S) fun r3 S4 =>
  fX3_weighMovesOf_201 k85 v1 v2 v3 v4 v5 v6 v7 S4))
def fX3_weighMovesOf_139 (k85 : Int32 → Int32 → Int32 → Int32 → Int32 → Int32 → Int32 → St → Rs) (v1 v2 v3 v4 v5 v6 v7 t0 : Int32) (S : St) : Rs :=
  Bd (fX4_hasCopy v5 v7 S) fun r1 S2 =>
  if r1 = 0 then (
  fX3_weighMovesOf_158 k85 v1 v2 v3 v4 v5 v6 v7 (1 : Int32) t0 S2)
  else (
  fX3_weighMovesOf_158 k85 v1 v2 v3 v4 v5 v6 v7 (0 : Int32) t0 S2)
def fX3_weighMovesOf_85_b (k85 : Int32 → Int32 → Int32 → Int32 → Int32 → Int32 → Int32 → St → Rs) (v1 v2 v3 v4 v5 v6 v7 : Int32) (S : St) : Rs :=
  if (S.1 2) ≤ v7 then (
  some (0, S))
  else (
  if v7 = v3 then (
  fX3_weighMovesOf_201 k85 v1 v2 v3 v4 v5 v6 v7 S)
  else (
  gA (inb v7 8) (
  if (S.2 4 (ix v7)) < v2 then (
  Bd (fX4_hasCopy v4 v7 S) fun r1 S2 =>
  if r1 = 0 then (
  fX3_weighMovesOf_139 k85 v1 v2 v3 v4 v5 v6 v7 (1 : Int32) S2)
  else (
  fX3_weighMovesOf_139 k85 v1 v2 v3 v4 v5 v6 v7 (0 : Int32) S2))
  else (
  fX3_weighMovesOf_201 k85 v1 v2 v3 v4 v5 v6 v7 S))))
def fX3_weighMovesOf_85 : Nat → Int32 → Int32 → Int32 → Int32 → Int32 → Int32 → Int32 → St → Rs
  | 0 => fun _ _ _ _ _ _ _ _ => none
  | n + 1 => fX3_weighMovesOf_85_b (fX3_weighMovesOf_85 n)
def fX3_weighMovesOf_68 (v1 v2 v3 v4 v5 t0 t1 : Int32) (S : St) : Rs :=
  Lt (t1 + t0) fun x1 =>
  if (-x1) ≤ (S.1 11) then (
  fX3_weighMovesOf_85 FU v1 v2 v3 v4 v5 x1 (0 : Int32) S)
  else (
  some (0, S))
def fX3_weighMovesOf_50 (v1 v2 v3 v4 v5 t0 : Int32) (S : St) : Rs :=
  Bd (fX4_hasOneLineAt v5 v3 S) fun r1 S2 =>
  if r1 = 0 then (
  fX3_weighMovesOf_68 v1 v2 v3 v4 v5 (0 : Int32) t0 S2)
  else (
  fX3_weighMovesOf_68 v1 v2 v3 v4 v5 (1 : Int32) t0 S2)
def fX3_weighMovesOf (v1 v2 : Int32) (S : St) : Rs :=
  gA (inb v1 300) (
  Lt (S.2 3 (ix v1)) fun x1 =>
  gA (inb v1 300) (
  Lt (S.2 1 (ix v1)) fun x2 =>
  gA (inb v1 300) (
  Lt (S.2 2 (ix v1)) fun x3 =>
  Bd (fX4_hasOneLineAt x2 x1 S) fun r4 S5 =>
  if r4 = 0 then (
  fX3_weighMovesOf_50 v1 v2 x1 x2 x3 (0 : Int32) S5)
  else (
  fX3_weighMovesOf_50 v1 v2 x1 x2 x3 (1 : Int32) S5))))
def fX3_findMove_69 (t0 : Int32) (S : St) : Rs :=
  gA (b01 t0) (some (t0, S))
def fX3_findMove_50 (k22 : Int32 → Int32 → St → Rs) (v1 v2 : Int32) (S : St) : Rs :=
  k22 v1 (v2 + 1) S
def fX3_findMove_22_b (k22 : Int32 → Int32 → St → Rs) (v1 v2 : Int32) (S : St) : Rs :=
  if (S.1 3) ≤ v2 then (
  if (S.1 9) = (-1 : Int32) then (
  fX3_findMove_69 (0 : Int32) S)
  else (
  fX3_findMove_69 (1 : Int32) S))
  else (
  Bd (fX4_isLive v2 S) fun r1 S2 =>
  if r1 = 0 then (
  fX3_findMove_50 k22 v1 v2 S2)
  else (
  Bd (fX3_weighMovesOf v2 v1 S2) fun r3 S4 =>
  fX3_findMove_50 k22 v1 v2 S4))
def fX3_findMove_22 : Nat → Int32 → Int32 → St → Rs
  | 0 => fun _ _ _ => none
  | n + 1 => fX3_findMove_22_b (fX3_findMove_22 n)
def fX3_findMove (v1 : Int32) (S : St) : Rs :=
  LtS (sF S 9 (-1 : Int32)) fun S1 =>
  LtS (sF S1 10 (-1 : Int32)) fun S2 =>
  LtS (sF S2 11 (0 : Int32)) fun S3 =>
  LtS (sF S3 12 (0 : Int32)) fun S4 =>
  fX3_findMove_22 FU v1 (0 : Int32) S4
def fX6_makeBetterMove (S : St) : Rs :=
  Bd (fX1_roomFor (S.1 4) S) fun r1 S2 =>
  Bd (fX3_findMove r1 S2) fun r3 S4 =>
  if r3 = 0 then (
  gA (b01 (0 : Int32)) (some ((0 : Int32), S4)))
  else (
  Bd (fX4_takeOff (S4.1 9) S4) fun r5 S6 =>
  Bd (fX4_putOn (S6.1 9) (S6.1 10) S6) fun r7 S8 =>
  gA (b01 (1 : Int32)) (some ((1 : Int32), S8)))
def fX6_better_10 (S : St) : Rs :=
  some ((-1 : Int32), S)
def fX6_better_32 (v2 : Int32) (S : St) : Rs :=
  LtS (sF S 1 ((S.1 1) + v2)) fun S1 =>
  some (v2, S1)
def fX6_better_14_b (k14 : Int32 → Int32 → St → Rs) (v1 v2 : Int32) (S : St) : Rs :=
  if v1 ≤ v2 then (
  fX6_better_32 v2 S)
  else (
  Bd (fX6_makeBetterMove S) fun r1 S2 =>
  if r1 = 0 then (
  fX6_better_32 v2 S2)
  else (
  k14 v1 (v2 + 1) S2))
def fX6_better_14 : Nat → Int32 → Int32 → St → Rs
  | 0 => fun _ _ _ => none
  | n + 1 => fX6_better_14_b (fX6_better_14 n)
def fX6_better (v1 : Int32) (S : St) : Rs :=
  if v1 < 0 then (
  fX6_better_10 S)
  else (
  if v1 ≤ (50 : Int32) then (
  fX6_better_14 FU v1 (0 : Int32) S)
  else (
  fX6_better_10 S))
def fX6_more (S : St) : Rs :=
  if (S.1 2) < (8 : Int32) then (
  LtS (sF S 2 ((S.1 2) + (1 : Int32))) fun S1 =>
  some ((S1.1 2), S1))
  else (
  some ((-1 : Int32), S))
def fX4_dropHost_76 (k5 : Int32 → Int32 → Int32 → St → Rs) (v1 v3 v4 : Int32) (S : St) : Rs :=
  k5 v1 v3 (v4 + 1) S
def fX4_dropHost_53 (k5 : Int32 → Int32 → Int32 → St → Rs) (v1 v3 v4 v5 : Int32) (S : St) : Rs :=
  if v5 ≤ v1 then (
  fX4_dropHost_76 k5 v1 v3 v4 S)
  else (
  Bd (fX4_takeOff v4 S) fun r1 S2 =>
  Bd (fX4_putOn v4 (v5 - (1 : Int32)) S2) fun r3 S4 =>
  fX4_dropHost_76 k5 v1 v3 v4 S4)
def fX4_dropHost_5_b (k5 : Int32 → Int32 → Int32 → St → Rs) (v1 v3 v4 : Int32) (S : St) : Rs :=
  if (S.1 3) ≤ v4 then (
  LtS (sF S 2 ((S.1 2) - (1 : Int32))) fun S1 =>
  some (v3, S1))
  else (
  gA (inb v4 300) (
  Lt (S.2 3 (ix v4)) fun x2 =>
  if x2 = v1 then (
  if (300 : Int32) ≤ v3 then (
  fX4_dropHost_53 k5 v1 v3 v4 x2 S)
  else (
  Bd (fX4_takeOff v4 S) fun r3 S4 =>
  gA (inb v3 300) (
  LtS (sA S4 0 (ix v3) v4) fun S5 =>
  fX4_dropHost_76 k5 v1 (v3 + 1) v4 S5)))
  else (
  fX4_dropHost_53 k5 v1 v3 v4 x2 S)))
def fX4_dropHost_5 : Nat → Int32 → Int32 → Int32 → St → Rs
  | 0 => fun _ _ _ _ => none
  | n + 1 => fX4_dropHost_5_b (fX4_dropHost_5 n)
def fX4_dropHost (v1 : Int32) (S : St) : Rs :=
  fX4_dropHost_5 FU v1 (0 : Int32) (0 : Int32) S
def fX6_less_22 (S : St) : Rs :=
  some ((-1 : Int32), S)
def fX6_less_73 (v2 : Int32) (S : St) : Rs :=
  some (v2, S)
def fX6_less_39_b (k39 : Int32 → Int32 → St → Rs) (v2 v3 : Int32) (S : St) : Rs :=
  if v2 ≤ v3 then (
  fX6_less_73 v2 S)
  else (
  if (300 : Int32) ≤ v3 then (
  fX6_less_73 v2 S)
  else (
  gA (inb v3 300) (
  Bd (fX1_dealLine (S.2 0 (ix v3)) S) fun r1 S2 =>
  k39 v2 (v3 + 1) S2)))
def fX6_less_39 : Nat → Int32 → Int32 → St → Rs
  | 0 => fun _ _ _ => none
  | n + 1 => fX6_less_39_b (fX6_less_39 n)
def fX6_less (v1 : Int32) (S : St) : Rs :=
  Bd (fX4_hasHost v1 S) fun r1 S2 =>
  if r1 = 0 then (
  fX6_less_22 S2)
  else (
  if (2 : Int32) < (S2.1 2) then (
  Bd (fX4_dropHost v1 S2) fun r3 S4 =>
  fX6_less_39 FU r3 (0 : Int32) S4)
  else (
  fX6_less_22 S2))
def fX6_host_24 (t0 : Int32) (S : St) : Rs :=
  some (t0, S)
def fX6_host (v1 : Int32) (S : St) : Rs :=
  Bd (fX4_isLive v1 S) fun r1 S2 =>
  if r1 = 0 then (
  fX6_host_24 (-1 : Int32) S2)
  else (
  gA (inb v1 300) (
  fX6_host_24 (S2.2 3 (ix v1)) S2))
def fX6_load_24 (t0 : Int32) (S : St) : Rs :=
  some (t0, S)
def fX6_load (v1 : Int32) (S : St) : Rs :=
  Bd (fX4_hasHost v1 S) fun r1 S2 =>
  if r1 = 0 then (
  fX6_load_24 (-1 : Int32) S2)
  else (
  gA (inb v1 8) (
  fX6_load_24 (S2.2 4 (ix v1)) S2))
def fX6_copies_20 (t0 : Int32) (S : St) : Rs :=
  some (t0, S)
def fX6_copies (v1 : Int32) (S : St) : Rs :=
  Bd (fX6_isPoint v1 S) fun r1 S2 =>
  if r1 = 0 then (
  fX6_copies_20 (-1 : Int32) S2)
  else (
  gA (inb v1 40) (
  fX6_copies_20 (S2.2 6 (ix v1)) S2))
def fX6_all (S : St) : Rs :=
  some ((S.1 5), S)
def fX6_degree_20 (t0 : Int32) (S : St) : Rs :=
  some (t0, S)
def fX6_degree (v1 : Int32) (S : St) : Rs :=
  Bd (fX6_isPoint v1 S) fun r1 S2 =>
  if r1 = 0 then (
  fX6_degree_20 (-1 : Int32) S2)
  else (
  gA (inb v1 40) (
  fX6_degree_20 (S2.2 5 (ix v1)) S2))
def fX6_room (S : St) : Rs :=
  Bd (fX1_roomFor (S.1 4) S) fun r1 S2 =>
  some (r1, S2)
def fX0_collectLines_67 (S : St) : Rs :=
  some (0, S)
def fX0_collectLines_61 (k7 : Int32 → St → Rs) (v1 : Int32) (S : St) : Rs :=
  k7 (v1 + 1) S
def fX0_collectLines_7_b (k7 : Int32 → St → Rs) (v1 : Int32) (S : St) : Rs :=
  if (S.1 3) ≤ v1 then (
  fX0_collectLines_67 S)
  else (
  if (8 : Int32) ≤ (S.1 13) then (
  fX0_collectLines_67 S)
  else (
  Bd (fX4_isLive v1 S) fun r1 S2 =>
  if r1 = 0 then (
  fX0_collectLines_61 k7 v1 S2)
  else (
  gA (inb (S2.1 13) 8) (
  LtS (sA S2 8 (ix (S2.1 13)) v1) fun S3 =>
  LtS (sF S3 13 ((S3.1 13) + (1 : Int32))) fun S4 =>
  fX0_collectLines_61 k7 v1 S4))))
def fX0_collectLines_7 : Nat → Int32 → St → Rs
  | 0 => fun _ _ => none
  | n + 1 => fX0_collectLines_7_b (fX0_collectLines_7 n)
def fX0_collectLines (S : St) : Rs :=
  LtS (sF S 13 (0 : Int32)) fun S1 =>
  fX0_collectLines_7 FU (0 : Int32) S1
def fX0_tryHost_s (kr : Int32 → Int32 → Int32 → St → Rs) (v1 v2 v3 v4 : Int32) (S : St) : Rs :=
  gA (inb v1 8) (
  gA (inb (S.2 8 (ix v1)) 300) (
  Lt (S.2 1 (ix (S.2 8 (ix v1)))) fun x1 =>
  gA (inb v1 8) (
  gA (inb (S.2 8 (ix v1)) 300) (
  Lt (S.2 2 (ix (S.2 8 (ix v1)))) fun x2 =>
  gA (inb x1 40) (
  Lt (S.2 10 (ix x1)) fun x3 =>
  gA (inb x2 40) (
  Lt (S.2 10 (ix x2)) fun x4 =>
  Lt ((((x3 >>> (v3 &&& 31)) &&& (1 : Int32)) ^^^ (1 : Int32)) + (((x4 >>> (v3 &&& 31)) &&& (1 : Int32)) ^^^ (1 : Int32))) fun x5 =>
  gA (inb x1 40) (
  LtS (sA S 10 (ix x1) (x3 ||| ((1 : Int32) <<< (v3 &&& 31)))) fun S6 =>
  gA (inb x2 40) (
  LtS (sA S6 10 (ix x2) (x4 ||| ((1 : Int32) <<< (v3 &&& 31)))) fun S7 =>
  gA (inb v3 3) (
  gA (inb v3 3) (
  LtS (sA S7 9 (ix v3) ((S7.2 9 (ix v3)) + (1 : Int32))) fun S8 =>
  Bd (kr (v1 + (1 : Int32)) (v2 + x5) v4 S8) fun r9 S10 =>
  gA (inb v3 3) (
  gA (inb v3 3) (
  LtS (sA S10 9 (ix v3) ((S10.2 9 (ix v3)) - (1 : Int32))) fun S11 =>
  gA (inb x1 40) (
  LtS (sA S11 10 (ix x1) x3) fun S12 =>
  gA (inb x2 40) (
  LtS (sA S12 10 (ix x2) x4) fun S13 =>
  some (0, S13)))))))))))))))
def fX0_dealFrom_86 (kr : Int32 → Int32 → Int32 → Int32 → St → Rs) (k49 : Int32 → Int32 → Int32 → Int32 → Int32 → St → Rs) (v1 v2 v3 v4 v5 : Int32) (S : St) : Rs :=
  k49 v1 v2 v3 v4 (v5 + 1) S
def fX0_dealFrom_49_b (kr : Int32 → Int32 → Int32 → Int32 → St → Rs) (k49 : Int32 → Int32 → Int32 → Int32 → Int32 → St → Rs) (v1 v2 v3 v4 v5 : Int32) (S : St) : Rs :=
  if v4 ≤ v5 then (
  some (0, S))
  else (
  gA (inb v5 3) (
  if (S.1 14) ≤ (S.2 9 (ix v5)) then (
  fX0_dealFrom_86 kr k49 v1 v2 v3 v4 v5 S)
  else (
  Bd (kr v1 v2 v5 (if v3 < (v5 + (1 : Int32)) then (v5 + (1 : Int32)) else v3) S) fun r1 S2 =>
  fX0_dealFrom_86 kr k49 v1 v2 v3 v4 v5 S2)))
def fX0_dealFrom_49 (kr : Int32 → Int32 → Int32 → Int32 → St → Rs) : Nat → Int32 → Int32 → Int32 → Int32 → Int32 → St → Rs
  | 0 => fun _ _ _ _ _ _ => none
  | n + 1 => fX0_dealFrom_49_b kr (fX0_dealFrom_49 kr n)
def fX0_dealFrom_s (kr : Int32 → Int32 → Int32 → Int32 → St → Rs) (v1 v2 v3 : Int32) (S : St) : Rs :=
  if v2 < (S.1 15) then (
  if v1 < (S.1 13) then (
  Lt (if (if (3 : Int32) < (S.1 2) then (3 : Int32) else (S.1 2)) < (v3 + (1 : Int32)) then (if (3 : Int32) < (S.1 2) then (3 : Int32) else (S.1 2)) else (v3 + (1 : Int32))) fun x1 =>
  fX0_dealFrom_49 kr FU v1 v2 v3 x1 (0 : Int32) S)
  else (
  LtS (sF S 15 v2) fun S2 =>
  some (0, S2)))
  else (
  some (0, S))
def fX0_dealFrom : Nat → Int32 → Int32 → Int32 → St → Rs
  | 0 => fun _ _ _ _ => none
  | n + 1 => fX0_dealFrom_s (fX0_tryHost_s (fX0_dealFrom n))
def fX0_fewestCopies (v1 : Int32) (S : St) : Rs :=
  Bd (fX0_collectLines S) fun r1 S2 =>
  LtS (sF S2 14 v1) fun S3 =>
  LtS (sF S3 15 ((2 : Int32) * (S3.1 13))) fun S4 =>
  Bd (fX0_dealFrom 10 (0 : Int32) (0 : Int32) (0 : Int32) S4) fun r5 S6 =>
  some ((S6.1 15), S6)
def fX6_best_34 (S : St) : Rs :=
  some ((-1 : Int32), S)
def fX6_best (S : St) : Rs :=
  if (S.1 4) < (1 : Int32) then (
  fX6_best_34 S)
  else (
  if (8 : Int32) < (S.1 4) then (
  fX6_best_34 S)
  else (
  if (S.1 2) ≤ (3 : Int32) then (
  Bd (fX1_roomFor (S.1 4) S) fun r1 S2 =>
  Bd (fX0_fewestCopies r1 S2) fun r3 S4 =>
  some (r3, S4))
  else (
  fX6_best_34 S)))
def fX5_lowerTo (v1 v2 : Int32) (S : St) : Rs :=
  gA (inb v1 40) (
  if v2 < (S.2 11 (ix v1)) then (
  gA (inb v1 40) (
  LtS (sA S 11 (ix v1) v2) fun S1 =>
  gA (b01 (1 : Int32)) (some ((1 : Int32), S1))))
  else (
  gA (b01 (0 : Int32)) (some ((0 : Int32), S))))
def fX5_goOneRound_90 (k19 : Int32 → Int32 → St → Rs) (v1 v2 : Int32) (S : St) : Rs :=
  k19 v1 (v2 + 1) S
def fX5_goOneRound_19_b (k19 : Int32 → Int32 → St → Rs) (v1 v2 : Int32) (S : St) : Rs :=
  if (S.1 3) ≤ v2 then (
  gA (b01 v1) (some (v1, S)))
  else (
  Bd (fX4_isLive v2 S) fun r1 S2 =>
  if r1 = 0 then (
  fX5_goOneRound_90 k19 v1 v2 S2)
  else (
  gA (inb v2 300) (
  Lt (S2.2 1 (ix v2)) fun x3 =>
  gA (inb v2 300) (
  Lt (S2.2 2 (ix v2)) fun x4 =>
  gA (inb x4 40) (
  Bd (fX5_lowerTo x3 (S2.2 12 (ix x4)) S2) fun r5 S6 =>
  gA (inb x3 40) (
  Bd (fX5_lowerTo x4 (S6.2 12 (ix x3)) S6) fun r7 S8 =>
  Lt (v1 ||| (r5 ||| r7)) fun x9 =>
  fX5_goOneRound_90 k19 x9 v2 S8))))))
def fX5_goOneRound_19 : Nat → Int32 → Int32 → St → Rs
  | 0 => fun _ _ _ => none
  | n + 1 => fX5_goOneRound_19_b (fX5_goOneRound_19 n)
def fX5_goOneRound (S : St) : Rs :=
  LtS (sR S 12 (va_cpy (S.2 11) (S.2 12) 0 0 40)) fun S1 =>
  fX5_goOneRound_19 FU (0 : Int32) (0 : Int32) S1
def fX5_spread_59 (S : St) : Rs :=
  some (0, S)
def fX5_spread_28_b (k28 : Int32 → St → Rs) (v1 : Int32) (S : St) : Rs :=
  if v1 = 0 then (
  fX5_spread_59 S)
  else (
  if (40 : Int32) < (S.1 16) then (
  fX5_spread_59 S)
  else (
  Bd (fX5_goOneRound S) fun r1 S2 =>
  LtS (sF S2 16 ((S2.1 16) + (1 : Int32))) fun S3 =>
  k28 r1 S3))
def fX5_spread_28 : Nat → Int32 → St → Rs
  | 0 => fun _ _ => none
  | n + 1 => fX5_spread_28_b (fX5_spread_28 n)
def fX5_spread_2_b (k2 : Int32 → St → Rs) (v1 : Int32) (S : St) : Rs :=
  if (40 : Int32) ≤ v1 then (
  LtS (sF S 16 (0 : Int32)) fun S1 =>
  fX5_spread_28 FU (1 : Int32) S1)
  else (
  gA (inb v1 40) (
  LtS (sA S 11 (ix v1) v1) fun S2 =>
  k2 (v1 + 1) S2))
def fX5_spread_2 : Nat → Int32 → St → Rs
  | 0 => fun _ _ => none
  | n + 1 => fX5_spread_2_b (fX5_spread_2 n)
def fX5_spread (S : St) : Rs :=
  fX5_spread_2 FU (0 : Int32) S
def fX6_part (v1 : Int32) (S : St) : Rs :=
  Bd (fX6_isPoint v1 S) fun r1 S2 =>
  if r1 = 0 then (
  some ((-1 : Int32), S2))
  else (
  Bd (fX5_spread S2) fun r3 S4 =>
  gA (inb v1 40) (
  some ((S4.2 11 (ix v1)), S4)))
def fX4_pointsWithCopies_22 (k4 : Int32 → Int32 → St → Rs) (v1 v2 : Int32) (S : St) : Rs :=
  k4 v1 (v2 + 1) S
def fX4_pointsWithCopies_4_b (k4 : Int32 → Int32 → St → Rs) (v1 v2 : Int32) (S : St) : Rs :=
  if (40 : Int32) ≤ v2 then (
  some (v1, S))
  else (
  gA (inb v2 40) (
  if (S.2 6 (ix v2)) = 0 then (
  fX4_pointsWithCopies_22 k4 v1 v2 S)
  else (
  fX4_pointsWithCopies_22 k4 (v1 + 1) v2 S)))
def fX4_pointsWithCopies_4 : Nat → Int32 → Int32 → St → Rs
  | 0 => fun _ _ _ => none
  | n + 1 => fX4_pointsWithCopies_4_b (fX4_pointsWithCopies_4 n)
def fX4_pointsWithCopies (S : St) : Rs :=
  fX4_pointsWithCopies_4 FU (0 : Int32) (0 : Int32) S
def fX5_letters (S : St) : Rs :=
  Bd (fX4_pointsWithCopies S) fun r1 S2 =>
  Lt ((S.1 5) - r1) fun x3 =>
  some (((S2.1 16) * (2 : Int32)) * x3, S2)
def fX5_partsWithLines_35 (k4 : Int32 → Int32 → St → Rs) (v1 v2 : Int32) (S : St) : Rs :=
  k4 v1 (v2 + 1) S
def fX5_partsWithLines_4_b (k4 : Int32 → Int32 → St → Rs) (v1 v2 : Int32) (S : St) : Rs :=
  if (40 : Int32) ≤ v2 then (
  some (v1, S))
  else (
  gA (inb v2 40) (
  if (S.2 11 (ix v2)) = v2 then (
  gA (inb v2 40) (
  if (S.2 5 (ix v2)) ≤ 0 then (
  fX5_partsWithLines_35 k4 v1 v2 S)
  else (
  fX5_partsWithLines_35 k4 (v1 + 1) v2 S)))
  else (
  fX5_partsWithLines_35 k4 v1 v2 S)))
def fX5_partsWithLines_4 : Nat → Int32 → Int32 → St → Rs
  | 0 => fun _ _ _ => none
  | n + 1 => fX5_partsWithLines_4_b (fX5_partsWithLines_4 n)
def fX5_partsWithLines (S : St) : Rs :=
  fX5_partsWithLines_4 FU (0 : Int32) (0 : Int32) S
def fX6_run_9 (S : St) : Rs :=
  some ((-1 : Int32), S)
def fX6_run (v1 : Int32) (S : St) : Rs :=
  if v1 < 0 then (
  fX6_run_9 S)
  else (
  if v1 ≤ (2 : Int32) then (
  Bd (fX5_spread S) fun r1 S2 =>
  if v1 = 0 then (
  some ((S2.1 16), S2))
  else (if v1 = 1 then (
  Bd (fX5_letters S2) fun r3 S4 =>
  some (r3, S4))
  else (
  Bd (fX5_partsWithLines S2) fun r5 S6 =>
  some (r5, S6))))
  else (
  fX6_run_9 S))
def fX2_leastMasterFor_49 (k4 : Int32 → Int32 → Int32 → St → Rs) (v1 v2 v3 : Int32) (S : St) : Rs :=
  k4 v1 v2 (v3 + 1) S
def fX2_leastMasterFor_47 (k4 : Int32 → Int32 → Int32 → St → Rs) (v1 v3 : Int32) (S : St) : Rs :=
  fX2_leastMasterFor_49 k4 v1 v3 v3 S
def fX2_leastMasterFor_4_b (k4 : Int32 → Int32 → Int32 → St → Rs) (v1 v2 v3 : Int32) (S : St) : Rs :=
  if (S.1 2) ≤ v3 then (
  some (v2, S))
  else (
  Bd (fX4_hasCopy v1 v3 S) fun r1 S2 =>
  if r1 = 0 then (
  fX2_leastMasterFor_49 k4 v1 v2 v3 S2)
  else (
  if v2 = (-1 : Int32) then (
  fX2_leastMasterFor_47 k4 v1 v3 S2)
  else (
  gA (inb v3 8) (
  gA (inb v2 8) (
  if (S2.2 13 (ix v2)) ≤ (S2.2 13 (ix v3)) then (
  fX2_leastMasterFor_49 k4 v1 v2 v3 S2)
  else (
  fX2_leastMasterFor_47 k4 v1 v3 S2))))))
def fX2_leastMasterFor_4 : Nat → Int32 → Int32 → Int32 → St → Rs
  | 0 => fun _ _ _ _ => none
  | n + 1 => fX2_leastMasterFor_4_b (fX2_leastMasterFor_4 n)
def fX2_leastMasterFor (v1 : Int32) (S : St) : Rs :=
  fX2_leastMasterFor_4 FU v1 (-1 : Int32) (0 : Int32) S
def fX2_masterOf_38 (k12 : Int32 → Int32 → Int32 → St → Rs) (v1 v2 v3 : Int32) (S : St) : Rs :=
  k12 v1 v2 (v3 + 1) S
def fX2_masterOf_12_b (k12 : Int32 → Int32 → Int32 → St → Rs) (v1 v2 v3 : Int32) (S : St) : Rs :=
  if v1 < v3 then (
  some (v2, S))
  else (
  Bd (fX2_leastMasterFor v3 S) fun r1 S2 =>
  if r1 = (-1 : Int32) then (
  fX2_masterOf_38 k12 v1 r1 v3 S2)
  else (
  gA (inb r1 8) (
  gA (inb r1 8) (
  LtS (sA S2 13 (ix r1) ((S2.2 13 (ix r1)) + (1 : Int32))) fun S3 =>
  fX2_masterOf_38 k12 v1 r1 v3 S3))))
def fX2_masterOf_12 : Nat → Int32 → Int32 → Int32 → St → Rs
  | 0 => fun _ _ _ _ => none
  | n + 1 => fX2_masterOf_12_b (fX2_masterOf_12 n)
def fX2_masterOf (v1 : Int32) (S : St) : Rs :=
  Bd (fJ7_fill_53178 (0 : Int32) S) fun r1 S2 =>
  fX2_masterOf_12 FU v1 (-1 : Int32) (0 : Int32) S2
def fX6_master_19 (t0 : Int32) (S : St) : Rs :=
  some (t0, S)
def fX6_master (v1 : Int32) (S : St) : Rs :=
  Bd (fX6_isPoint v1 S) fun r1 S2 =>
  if r1 = 0 then (
  fX6_master_19 (-1 : Int32) S2)
  else (
  Bd (fX2_masterOf v1 S2) fun r3 S4 =>
  fX6_master_19 r3 S4)
def fX4_leastLoad_7_b (k7 : Int32 → Int32 → St → Rs) (v1 v2 : Int32) (S : St) : Rs :=
  if (S.1 2) ≤ v2 then (
  some (v1, S))
  else (
  gA (inb v2 8) (
  Lt (if (S.2 4 (ix v2)) < v1 then (S.2 4 (ix v2)) else v1) fun x1 =>
  k7 x1 (v2 + 1) S))
def fX4_leastLoad_7 : Nat → Int32 → Int32 → St → Rs
  | 0 => fun _ _ _ => none
  | n + 1 => fX4_leastLoad_7_b (fX4_leastLoad_7 n)
def fX4_leastLoad (S : St) : Rs :=
  Lt (S.1 4) fun x1 =>
  fX4_leastLoad_7 FU x1 (0 : Int32) S
def fX6_count (v1 : Int32) (S : St) : Rs :=
  if v1 = 0 then (
  some ((S.1 2), S))
  else (if v1 = 1 then (
  some ((S.1 3), S))
  else (if v1 = 2 then (
  some ((S.1 4), S))
  else (if v1 = 3 then (
  some ((S.1 1), S))
  else (if v1 = 4 then (
  Bd (fX4_greatestLoad S) fun r1 S2 =>
  some (r1, S2))
  else (if v1 = 5 then (
  Bd (fX4_leastLoad S) fun r3 S4 =>
  some (r3, S4))
  else (if v1 = 6 then (
  Bd (fX4_pointsWithCopies S) fun r5 S6 =>
  some (r5, S6))
  else (if v1 = 7 then (
  some ((S.1 6), S))
  else (if v1 = 8 then (
  some ((S.1 7), S))
  else (if v1 = 9 then (
  some ((S.1 8), S))
  else (if v1 = 10 then (
  some ((S.1 0), S))
  else (
  some ((-1 : Int32), S))))))))))))
def fX7_in_15 (t0 : Int32) (S : St) : Rs :=
  gA (b01 t0) (some (t0, S))
def fX7_in_14 (S : St) : Rs :=
  fX7_in_15 (0 : Int32) S
def fX7_in (v0 v1 v2 : Int32) (S : St) : Rs :=
  if v0 < v1 then (
  fX7_in_14 S)
  else (
  if v2 < v0 then (
  fX7_in_14 S)
  else (
  fX7_in_15 (1 : Int32) S))
def fX7_isPoint (v0 : Int32) (S : St) : Rs :=
  Bd (fX7_in v0 (0 : Int32) (39 : Int32) S) fun r1 S2 =>
  gA (b01 r1) (some (r1, S2))
def fX7_isLive_29 (t0 : Int32) (S : St) : Rs :=
  gA (b01 t0) (some (t0, S))
def fX7_isLive_28 (S : St) : Rs :=
  fX7_isLive_29 (0 : Int32) S
def fX7_isLive (v1 : Int32) (S : St) : Rs :=
  Bd (fX7_in v1 (0 : Int32) ((S.1 1) - (1 : Int32)) S) fun r1 S2 =>
  if r1 = 0 then (
  fX7_isLive_28 S2)
  else (
  gA (inb v1 300) (
  if (S2.2 2 (ix v1)) = (-1 : Int32) then (
  fX7_isLive_28 S2)
  else (
  fX7_isLive_29 (1 : Int32) S2)))
def fX7_roomFor (v1 : Int32) (S : St) : Rs :=
  gA (nz ((100 : Int32) * (S.1 0))) (
  some ((((v1 * ((100 : Int32) + (S.1 4))) + ((100 : Int32) * (S.1 0))) - (1 : Int32)) / ((100 : Int32) * (S.1 0)), S))
def fX7_puts_14 (v1 v2 v3 t0 t1 : Int32) (S : St) : Rs :=
  gA (inb t1 300) (
  LtS (sA S 2 (ix t1) t0) fun S1 =>
  gA (inb v2 8) (
  gA (inb v2 8) (
  LtS (sA S1 3 (ix v2) ((S1.2 3 (ix v2)) + v3)) fun S2 =>
  gA (inb v1 300) (
  gA (inb (((8 : Int32) * (S2.2 0 (ix v1))) + v2) 320) (
  gA (inb (((8 : Int32) * (S2.2 0 (ix v1))) + v2) 320) (
  LtS (sA S2 4 (ix (((8 : Int32) * (S2.2 0 (ix v1))) + v2)) ((S2.2 4 (ix (((8 : Int32) * (S2.2 0 (ix v1))) + v2))) + v3)) fun S3 =>
  gA (inb v1 300) (
  gA (inb (((8 : Int32) * (S3.2 1 (ix v1))) + v2) 320) (
  gA (inb (((8 : Int32) * (S3.2 1 (ix v1))) + v2) 320) (
  LtS (sA S3 4 (ix (((8 : Int32) * (S3.2 1 (ix v1))) + v2)) ((S3.2 4 (ix (((8 : Int32) * (S3.2 1 (ix v1))) + v2))) + v3)) fun S4 =>
  LtS (sF S4 2 ((S4.1 2) + v3)) fun S5 =>
  some (0, S5))))))))))
def fX7_puts (v1 v2 v3 : Int32) (S : St) : Rs :=
  if v3 ≤ 0 then (
  fX7_puts_14 v1 v2 v3 (-1 : Int32) v1 S)
  else (
  fX7_puts_14 v1 v2 v3 v2 v1 S)
def fX7_greatest_29 (k4 : Int32 → Int32 → St → Rs) (v1 v2 : Int32) (S : St) : Rs :=
  k4 v1 (v2 + 1) S
def fX7_greatest_4_b (k4 : Int32 → Int32 → St → Rs) (v1 v2 : Int32) (S : St) : Rs :=
  if (S.1 0) ≤ v2 then (
  some (v1, S))
  else (
  gA (inb v2 8) (
  if (S.2 3 (ix v2)) ≤ v1 then (
  fX7_greatest_29 k4 v1 v2 S)
  else (
  gA (inb v2 8) (
  Lt (S.2 3 (ix v2)) fun x1 =>
  fX7_greatest_29 k4 x1 v2 S))))
def fX7_greatest_4 : Nat → Int32 → Int32 → St → Rs
  | 0 => fun _ _ _ => none
  | n + 1 => fX7_greatest_4_b (fX7_greatest_4 n)
def fX7_greatest (S : St) : Rs :=
  fX7_greatest_4 FU (0 : Int32) (0 : Int32) S
def fX7_degree_13_b (k13 : Int32 → Int32 → Int32 → St → Rs) (v1 v2 v3 : Int32) (S : St) : Rs :=
  if (S.1 0) ≤ v3 then (
  some (v2, S))
  else (
  gA (inb (((8 : Int32) * v1) + v3) 320) (
  Lt (v2 + (S.2 4 (ix (((8 : Int32) * v1) + v3)))) fun x1 =>
  k13 v1 x1 (v3 + 1) S))
def fX7_degree_13 : Nat → Int32 → Int32 → Int32 → St → Rs
  | 0 => fun _ _ _ _ => none
  | n + 1 => fX7_degree_13_b (fX7_degree_13 n)
def fX7_degree (v1 : Int32) (S : St) : Rs :=
  Bd (fX7_isPoint v1 S) fun r1 S2 =>
  if r1 = 0 then (
  some ((-1 : Int32), S2))
  else (
  fX7_degree_13 FU v1 (0 : Int32) (0 : Int32) S2)
def fX7_scoreOf_48 (t0 : Int32) (S : St) : Rs :=
  some (t0, S)
def fX7_scoreOf_127 (v4 t0 t1 : Int32) (S : St) : Rs :=
  Lt (t1 + t0) fun x1 =>
  some (((10 : Int32) * x1) + ((S.1 5) * v4), S)
def fX7_scoreOf_95 (v2 v3 v4 v5 v6 t0 : Int32) (S : St) : Rs :=
  gA (inb (((8 : Int32) * v2) + v3) 320) (
  if (S.2 4 (ix (((8 : Int32) * v2) + v3))) ≤ 0 then (
  fX7_scoreOf_127 v4 (0 : Int32) t0 S)
  else (
  fX7_scoreOf_127 v4 (((2 : Int32) * (v5 + v6)) - v6) t0 S))
def fX7_scoreOf (v1 v2 v3 : Int32) (S : St) : Rs :=
  Bd (fX7_greatest S) fun r1 S2 =>
  gA (inb v3 8) (
  Lt (r1 - (S2.2 3 (ix v3))) fun x3 =>
  if (S2.1 6) = 0 then (
  some (x3, S2))
  else (
  if (S2.1 6) = (1 : Int32) then (
  gA (nz (S2.1 0)) (
  if ((v1 + v2) - (v1 + v2) / (S2.1 0) * (S2.1 0)) = v3 then (
  fX7_scoreOf_48 (1 : Int32) S2)
  else (
  fX7_scoreOf_48 (0 : Int32) S2)))
  else (
  Bd (fX7_degree v1 S2) fun r4 S5 =>
  Lt (r4 + (1 : Int32)) fun x6 =>
  Bd (fX7_degree v2 S5) fun r7 S8 =>
  Lt (r7 + (1 : Int32)) fun x9 =>
  gA (inb (((8 : Int32) * v1) + v3) 320) (
  if (S8.2 4 (ix (((8 : Int32) * v1) + v3))) ≤ 0 then (
  fX7_scoreOf_95 v2 v3 x3 x6 x9 (0 : Int32) S8)
  else (
  fX7_scoreOf_95 v2 v3 x3 x6 x9 (((2 : Int32) * (x6 + x9)) - x6) S8)))))
def fX7_deals_83 (k19 : Int32 → Int32 → Int32 → Int32 → Int32 → St → Rs) (v1 v2 v3 v4 v5 : Int32) (S : St) : Rs :=
  k19 v1 v2 v3 v4 (v5 + 1) S
def fX7_deals_77 (k19 : Int32 → Int32 → Int32 → Int32 → Int32 → St → Rs) (v1 v4 v5 v6 : Int32) (S : St) : Rs :=
  fX7_deals_83 k19 v1 v5 v6 v4 v5 S
def fX7_deals_19_b (k19 : Int32 → Int32 → Int32 → Int32 → Int32 → St → Rs) (v1 v2 v3 v4 v5 : Int32) (S : St) : Rs :=
  if (S.1 0) ≤ v5 then (
  Bd (fX7_puts v1 v2 (1 : Int32) S) fun r1 S2 =>
  some (v2, S2))
  else (
  gA (inb v5 8) (
  if (S.2 3 (ix v5)) < v4 then (
  gA (inb v1 300) (
  gA (inb v1 300) (
  Bd (fX7_scoreOf (S.2 0 (ix v1)) (S.2 1 (ix v1)) v5 S) fun r3 S4 =>
  if v2 = (-1 : Int32) then (
  fX7_deals_77 k19 v1 v4 v5 r3 S4)
  else (
  if v3 < r3 then (
  fX7_deals_77 k19 v1 v4 v5 r3 S4)
  else (
  fX7_deals_83 k19 v1 v2 v3 v4 v5 S4)))))
  else (
  fX7_deals_83 k19 v1 v2 v3 v4 v5 S)))
def fX7_deals_19 : Nat → Int32 → Int32 → Int32 → Int32 → Int32 → St → Rs
  | 0 => fun _ _ _ _ _ _ => none
  | n + 1 => fX7_deals_19_b (fX7_deals_19 n)
def fX7_deals (v1 : Int32) (S : St) : Rs :=
  Bd (fX7_roomFor ((S.1 2) + (1 : Int32)) S) fun r1 S2 =>
  fX7_deals_19 FU v1 (-1 : Int32) (0 : Int32) r1 (0 : Int32) S2
def fX7_shuts_56 (S : St) : Rs :=
  some (0, S)
def fX7_shuts_50 (k2 : Int32 → St → Rs) (v1 : Int32) (S : St) : Rs :=
  k2 (v1 + 1) S
def fX7_shuts_2_b (k2 : Int32 → St → Rs) (v1 : Int32) (S : St) : Rs :=
  if (S.1 1) ≤ v1 then (
  fX7_shuts_56 S)
  else (
  if (S.1 3) ≤ 0 then (
  fX7_shuts_56 S)
  else (
  if (S.1 2) ≤ (S.1 3) then (
  fX7_shuts_56 S)
  else (
  gA (inb v1 300) (
  if (S.2 2 (ix v1)) = (-1 : Int32) then (
  fX7_shuts_50 k2 v1 S)
  else (
  gA (inb v1 300) (
  Bd (fX7_puts v1 (S.2 2 (ix v1)) (-1 : Int32) S) fun r1 S2 =>
  fX7_shuts_50 k2 v1 S2))))))
def fX7_shuts_2 : Nat → Int32 → St → Rs
  | 0 => fun _ _ => none
  | n + 1 => fX7_shuts_2_b (fX7_shuts_2 n)
def fX7_shuts (S : St) : Rs :=
  fX7_shuts_2 FU (0 : Int32) S
def fX7_line_29 (S : St) : Rs :=
  some ((-1 : Int32), S)
def fX7_line (v1 v2 : Int32) (S : St) : Rs :=
  Bd (fX7_isPoint v1 S) fun r1 S2 =>
  if r1 = 0 then (
  fX7_line_29 S2)
  else (
  Bd (fX7_isPoint v2 S2) fun r3 S4 =>
  if r3 = 0 then (
  fX7_line_29 S4)
  else (
  if v1 = v2 then (
  fX7_line_29 S4)
  else (
  if (S4.1 1) = (300 : Int32) then (
  fX7_line_29 S4)
  else (
  gA (inb (S4.1 1) 300) (
  LtS (sA S4 0 (ix (S4.1 1)) v1) fun S5 =>
  gA (inb (S5.1 1) 300) (
  LtS (sA S5 1 (ix (S5.1 1)) v2) fun S6 =>
  LtS (sF S6 1 ((S6.1 1) + (1 : Int32))) fun S7 =>
  Bd (fX7_deals ((S7.1 1) - (1 : Int32)) S7) fun r8 S9 =>
  Bd (fX7_shuts S9) fun r10 S11 =>
  some (r8, S11)))))))
def fX7_rule (v1 : Int32) (S : St) : Rs :=
  Bd (fX7_in v1 (0 : Int32) (2 : Int32) S) fun r1 S2 =>
  if r1 = 0 then (
  gA (b01 (0 : Int32)) (some ((0 : Int32), S2)))
  else (
  LtS (sF S2 6 v1) fun S3 =>
  gA (b01 (1 : Int32)) (some ((1 : Int32), S3)))
def fX7_weights_20 (S : St) : Rs :=
  gA (b01 (0 : Int32)) (some ((0 : Int32), S))
def fX7_weights (v1 v2 : Int32) (S : St) : Rs :=
  Bd (fX7_in v1 (0 : Int32) (100 : Int32) S) fun r1 S2 =>
  if r1 = 0 then (
  fX7_weights_20 S2)
  else (
  Bd (fX7_in v2 (0 : Int32) (100 : Int32) S2) fun r3 S4 =>
  if r3 = 0 then (
  fX7_weights_20 S4)
  else (
  LtS (sF S4 4 v1) fun S5 =>
  LtS (sF S5 5 v2) fun S6 =>
  gA (b01 (1 : Int32)) (some ((1 : Int32), S6))))
def fX7_window (v1 : Int32) (S : St) : Rs :=
  Bd (fX7_in v1 (0 : Int32) (300 : Int32) S) fun r1 S2 =>
  if r1 = 0 then (
  gA (b01 (0 : Int32)) (some ((0 : Int32), S2)))
  else (
  LtS (sF S2 3 v1) fun S3 =>
  Bd (fX7_shuts S3) fun r4 S5 =>
  gA (b01 (1 : Int32)) (some ((1 : Int32), S5)))
def fX7_leave (v1 : Int32) (S : St) : Rs :=
  Bd (fX7_isLive v1 S) fun r1 S2 =>
  if r1 = 0 then (
  gA (b01 (0 : Int32)) (some ((0 : Int32), S2)))
  else (
  gA (inb v1 300) (
  Bd (fX7_puts v1 (S2.2 2 (ix v1)) (-1 : Int32) S2) fun r3 S4 =>
  gA (b01 (1 : Int32)) (some ((1 : Int32), S4))))
def fX7_change_39 (t0 t1 : Int32) (S : St) : Rs :=
  some (t1 - t0, S)
def fX7_change_19 (v1 v2 t0 : Int32) (S : St) : Rs :=
  gA (inb (((8 : Int32) * v1) + v2) 320) (
  if (S.2 4 (ix (((8 : Int32) * v1) + v2))) = (1 : Int32) then (
  fX7_change_39 (1 : Int32) t0 S)
  else (
  fX7_change_39 (0 : Int32) t0 S))
def fX7_change (v1 v2 v3 : Int32) (S : St) : Rs :=
  gA (inb (((8 : Int32) * v1) + v3) 320) (
  if (S.2 4 (ix (((8 : Int32) * v1) + v3))) = 0 then (
  fX7_change_19 v1 v2 (1 : Int32) S)
  else (
  fX7_change_19 v1 v2 (0 : Int32) S))
def fX7_room (S : St) : Rs :=
  Bd (fX7_roomFor (S.1 2) S) fun r1 S2 =>
  some (r1, S2)
def fX7_moves_210 (k18 : Int32 → Int32 → Int32 → Int32 → Int32 → Int32 → St → Rs) (v1 v2 v3 v4 v5 v6 : Int32) (S : St) : Rs :=
  k18 v1 v2 v3 v4 v5 (v6 + 1) S
def fX7_moves_204 (k18 : Int32 → Int32 → Int32 → Int32 → Int32 → Int32 → St → Rs) (k30 : Int32 → Int32 → Int32 → Int32 → Int32 → Int32 → Int32 → St → Rs) (v1 v2 v3 v4 v5 v6 v7 : Int32) (S : St) : Rs :=
  k30 v1 v2 v3 v4 v5 v6 (v7 + 1) S
def fX7_moves_190 (k18 : Int32 → Int32 → Int32 → Int32 → Int32 → Int32 → St → Rs) (k30 : Int32 → Int32 → Int32 → Int32 → Int32 → Int32 → Int32 → St → Rs) (v1 v6 v7 v9 v10 : Int32) (S : St) : Rs :=
  fX7_moves_204 k18 k30 v1 v6 v7 v9 v10 v6 v7 S
def fX7_moves_154 (k18 : Int32 → Int32 → Int32 → Int32 → Int32 → Int32 → St → Rs) (k30 : Int32 → Int32 → Int32 → Int32 → Int32 → Int32 → Int32 → St → Rs) (v1 v2 v3 v4 v5 v6 v7 v9 v10 t0 : Int32) (S : St) : Rs :=
  if t0 = 0 then (
  fX7_moves_204 k18 k30 v1 v2 v3 v4 v5 v6 v7 S)
  else (
  if v2 = (-1 : Int32) then (
  fX7_moves_190 k18 k30 v1 v6 v7 v9 v10 S)
  else (
  if v4 < v9 then (
  fX7_moves_204 k18 k30 v1 v2 v3 v4 v5 v6 v7 S)
  else (
  if v9 = v4 then (
  if v10 < v5 then (
  fX7_moves_190 k18 k30 v1 v6 v7 v9 v10 S)
  else (
  fX7_moves_204 k18 k30 v1 v2 v3 v4 v5 v6 v7 S))
  else (
  fX7_moves_190 k18 k30 v1 v6 v7 v9 v10 S))))
def fX7_moves_149 (k18 : Int32 → Int32 → Int32 → Int32 → Int32 → Int32 → St → Rs) (k30 : Int32 → Int32 → Int32 → Int32 → Int32 → Int32 → Int32 → St → Rs) (v1 v2 v3 v4 v5 v6 v7 v9 v10 : Int32) (S : St) : Rs :=
  fX7_moves_154 k18 k30 v1 v2 v3 v4 v5 v6 v7 v9 v10 (1 : Int32) S
def fX7_moves_153 (k18 : Int32 → Int32 → Int32 → Int32 → Int32 → Int32 → St → Rs) (k30 : Int32 → Int32 → Int32 → Int32 → Int32 → Int32 → Int32 → St → Rs) (v1 v2 v3 v4 v5 v6 v7 v9 v10 : Int32) (S : St) : Rs :=
  fX7_moves_154 k18 k30 v1 v2 v3 v4 v5 v6 v7 v9 v10 (0 : Int32) S
def fX7_moves_30_b (k18 : Int32 → Int32 → Int32 → Int32 → Int32 → Int32 → St → Rs) (k30 : Int32 → Int32 → Int32 → Int32 → Int32 → Int32 → Int32 → St → Rs) (v1 v2 v3 v4 v5 v6 v7 : Int32) (S : St) : Rs :=
  if (S.1 0) ≤ v7 then (
  fX7_moves_210 k18 v1 v2 v3 v4 v5 v6 S)
  else (
  gA (inb v6 300) (
  if (S.2 2 (ix v6)) = (-1 : Int32) then (
  fX7_moves_210 k18 v1 v2 v3 v4 v5 v6 S)
  else (
  gA (inb v6 300) (
  Lt (S.2 2 (ix v6)) fun x1 =>
  if v7 = x1 then (
  fX7_moves_204 k18 k30 v1 v2 v3 v4 v5 v6 v7 S)
  else (
  gA (inb v7 8) (
  if (S.2 3 (ix v7)) < v1 then (
  gA (inb v6 300) (
  Bd (fX7_change (S.2 0 (ix v6)) x1 v7 S) fun r2 S3 =>
  gA (inb v6 300) (
  Bd (fX7_change (S3.2 1 (ix v6)) x1 v7 S3) fun r4 S5 =>
  Lt (r2 + r4) fun x6 =>
  gA (inb v7 8) (
  gA (inb x1 8) (
  Lt (((2 : Int32) * ((S5.2 3 (ix v7)) - (S5.2 3 (ix x1)))) + (2 : Int32)) fun x7 =>
  if x6 < 0 then (
  fX7_moves_149 k18 k30 v1 v2 v3 v4 v5 v6 v7 x6 x7 S5)
  else (
  if x6 = 0 then (
  if 0 ≤ x7 then (
  fX7_moves_153 k18 k30 v1 v2 v3 v4 v5 v6 v7 x6 x7 S5)
  else (
  fX7_moves_149 k18 k30 v1 v2 v3 v4 v5 v6 v7 x6 x7 S5))
  else (
  fX7_moves_153 k18 k30 v1 v2 v3 v4 v5 v6 v7 x6 x7 S5)))))))
  else (
  fX7_moves_204 k18 k30 v1 v2 v3 v4 v5 v6 v7 S)))))))
def fX7_moves_30 (k18 : Int32 → Int32 → Int32 → Int32 → Int32 → Int32 → St → Rs) : Nat → Int32 → Int32 → Int32 → Int32 → Int32 → Int32 → Int32 → St → Rs
  | 0 => fun _ _ _ _ _ _ _ _ => none
  | n + 1 => fX7_moves_30_b k18 (fX7_moves_30 k18 n)
def fX7_moves_18_b (k18 : Int32 → Int32 → Int32 → Int32 → Int32 → Int32 → St → Rs) (v1 v2 v3 v4 v5 v6 : Int32) (S : St) : Rs :=
  if (S.1 1) ≤ v6 then (
  if v2 = (-1 : Int32) then (
  gA (b01 (0 : Int32)) (some ((0 : Int32), S)))
  else (
  gA (inb v2 300) (
  Bd (fX7_puts v2 (S.2 2 (ix v2)) (-1 : Int32) S) fun r1 S2 =>
  Bd (fX7_puts v2 v3 (1 : Int32) S2) fun r3 S4 =>
  gA (b01 (1 : Int32)) (some ((1 : Int32), S4)))))
  else (
  fX7_moves_30 k18 FU v1 v2 v3 v4 v5 v6 (0 : Int32) S)
def fX7_moves_18 : Nat → Int32 → Int32 → Int32 → Int32 → Int32 → Int32 → St → Rs
  | 0 => fun _ _ _ _ _ _ _ => none
  | n + 1 => fX7_moves_18_b (fX7_moves_18 n)
def fX7_moves (S : St) : Rs :=
  Bd (fX7_room S) fun r1 S2 =>
  fX7_moves_18 FU r1 (-1 : Int32) (0 : Int32) (0 : Int32) (0 : Int32) (0 : Int32) S2
def fX7_better_32 (v2 : Int32) (S : St) : Rs :=
  LtS (sF S 7 ((S.1 7) + v2)) fun S1 =>
  some (v2, S1)
def fX7_better_14_b (k14 : Int32 → Int32 → St → Rs) (v1 v2 : Int32) (S : St) : Rs :=
  if v1 ≤ v2 then (
  fX7_better_32 v2 S)
  else (
  Bd (fX7_moves S) fun r1 S2 =>
  if r1 = 0 then (
  fX7_better_32 v2 S2)
  else (
  k14 v1 (v2 + 1) S2))
def fX7_better_14 : Nat → Int32 → Int32 → St → Rs
  | 0 => fun _ _ _ => none
  | n + 1 => fX7_better_14_b (fX7_better_14 n)
def fX7_better (v1 : Int32) (S : St) : Rs :=
  Bd (fX7_in v1 (0 : Int32) (50 : Int32) S) fun r1 S2 =>
  if r1 = 0 then (
  some ((-1 : Int32), S2))
  else (
  fX7_better_14 FU v1 (0 : Int32) S2)
def fX7_more (S : St) : Rs :=
  if (S.1 0) = (8 : Int32) then (
  some ((-1 : Int32), S))
  else (
  LtS (sF S 0 ((S.1 0) + (1 : Int32))) fun S1 =>
  some ((S1.1 0), S1))
def fX7_less_22 (S : St) : Rs :=
  some ((-1 : Int32), S)
def fX7_less_265 (k242 : Int32 → Int32 → St → Rs) (v2 v3 : Int32) (S : St) : Rs :=
  k242 v2 (v3 + 1) S
def fX7_less_242_b (k242 : Int32 → Int32 → St → Rs) (v2 v3 : Int32) (S : St) : Rs :=
  if (S.1 1) ≤ v3 then (
  some (v2, S))
  else (
  gA (inb v3 300) (
  if (S.2 5 (ix v3)) = 0 then (
  fX7_less_265 k242 v2 v3 S)
  else (
  Bd (fX7_deals v3 S) fun r1 S2 =>
  fX7_less_265 k242 v2 v3 S2)))
def fX7_less_242 : Nat → Int32 → Int32 → St → Rs
  | 0 => fun _ _ _ => none
  | n + 1 => fX7_less_242_b (fX7_less_242 n)
def fX7_less_203_b (k203 : Int32 → Int32 → St → Rs) (v2 v3 : Int32) (S : St) : Rs :=
  if (40 : Int32) ≤ v3 then (
  LtS (sF S 0 ((S.1 0) - (1 : Int32))) fun S1 =>
  fX7_less_242 FU v2 (0 : Int32) S1)
  else (
  gA (inb ((((8 : Int32) * v3) + (8 : Int32)) - (1 : Int32)) 320) (
  LtS (sA S 4 (ix ((((8 : Int32) * v3) + (8 : Int32)) - (1 : Int32))) (0 : Int32)) fun S2 =>
  k203 v2 (v3 + 1) S2))
def fX7_less_203 : Nat → Int32 → Int32 → St → Rs
  | 0 => fun _ _ _ => none
  | n + 1 => fX7_less_203_b (fX7_less_203 n)
def fX7_less_148_b (k123 : Int32 → Int32 → St → Rs) (k148 : Int32 → Int32 → Int32 → St → Rs) (v2 v3 v4 : Int32) (S : St) : Rs :=
  if (40 : Int32) ≤ v4 then (
  k123 v2 (v3 + 1) S)
  else (
  gA (inb ((((8 : Int32) * v4) + v3) + (1 : Int32)) 320) (
  gA (inb (((8 : Int32) * v4) + v3) 320) (
  LtS (sA S 4 (ix (((8 : Int32) * v4) + v3)) (S.2 4 (ix ((((8 : Int32) * v4) + v3) + (1 : Int32))))) fun S1 =>
  k148 v2 v3 (v4 + 1) S1)))
def fX7_less_148 (k123 : Int32 → Int32 → St → Rs) : Nat → Int32 → Int32 → Int32 → St → Rs
  | 0 => fun _ _ _ _ => none
  | n + 1 => fX7_less_148_b k123 (fX7_less_148 k123 n)
def fX7_less_123_b (k123 : Int32 → Int32 → St → Rs) (v2 v3 : Int32) (S : St) : Rs :=
  if (8 : Int32) ≤ (v3 + (1 : Int32)) then (
  gA (inb (7 : Int32) 8) (
  LtS (sA S 3 (ix (7 : Int32)) (0 : Int32)) fun S1 =>
  fX7_less_203 FU v2 (0 : Int32) S1))
  else (
  gA (inb (v3 + (1 : Int32)) 8) (
  gA (inb v3 8) (
  LtS (sA S 3 (ix v3) (S.2 3 (ix (v3 + (1 : Int32))))) fun S2 =>
  fX7_less_148 k123 FU v2 v3 (0 : Int32) S2)))
def fX7_less_123 : Nat → Int32 → Int32 → St → Rs
  | 0 => fun _ _ _ => none
  | n + 1 => fX7_less_123_b (fX7_less_123 n)
def fX7_less_115 (k87 : Int32 → Int32 → Int32 → St → Rs) (v1 v2 v3 : Int32) (S : St) : Rs :=
  k87 v1 v2 (v3 + 1) S
def fX7_less_87_b (k87 : Int32 → Int32 → Int32 → St → Rs) (v1 v2 v3 : Int32) (S : St) : Rs :=
  if (S.1 1) ≤ v3 then (
  fX7_less_123 FU v2 v1 S)
  else (
  gA (inb v3 300) (
  if (S.2 2 (ix v3)) ≤ v1 then (
  fX7_less_115 k87 v1 v2 v3 S)
  else (
  gA (inb v3 300) (
  gA (inb v3 300) (
  LtS (sA S 2 (ix v3) ((S.2 2 (ix v3)) - (1 : Int32))) fun S1 =>
  fX7_less_115 k87 v1 v2 v3 S1)))))
def fX7_less_87 : Nat → Int32 → Int32 → Int32 → St → Rs
  | 0 => fun _ _ _ _ => none
  | n + 1 => fX7_less_87_b (fX7_less_87 n)
def fX7_less_79 (k28 : Int32 → Int32 → Int32 → St → Rs) (v1 v2 v3 : Int32) (S : St) : Rs :=
  k28 v1 v2 (v3 + 1) S
def fX7_less_56 (k28 : Int32 → Int32 → Int32 → St → Rs) (v1 v2 v3 t0 t1 : Int32) (S : St) : Rs :=
  gA (inb t1 300) (
  gA (b01 t0) (
  LtS (sA S 5 (ix t1) t0) fun S1 =>
  gA (inb v3 300) (
  if (S1.2 5 (ix v3)) = 0 then (
  fX7_less_79 k28 v1 v2 v3 S1)
  else (
  Bd (fX7_puts v3 v1 (-1 : Int32) S1) fun r2 S3 =>
  fX7_less_79 k28 v1 (v2 + 1) v3 S3))))
def fX7_less_28_b (k28 : Int32 → Int32 → Int32 → St → Rs) (v1 v2 v3 : Int32) (S : St) : Rs :=
  if (S.1 1) ≤ v3 then (
  fX7_less_87 FU v1 v2 (0 : Int32) S)
  else (
  gA (inb v3 300) (
  if (S.2 2 (ix v3)) = v1 then (
  fX7_less_56 k28 v1 v2 v3 (1 : Int32) v3 S)
  else (
  fX7_less_56 k28 v1 v2 v3 (0 : Int32) v3 S)))
def fX7_less_28 : Nat → Int32 → Int32 → Int32 → St → Rs
  | 0 => fun _ _ _ _ => none
  | n + 1 => fX7_less_28_b (fX7_less_28 n)
def fX7_less (v1 : Int32) (S : St) : Rs :=
  Bd (fX7_in v1 (0 : Int32) ((S.1 0) - (1 : Int32)) S) fun r1 S2 =>
  if r1 = 0 then (
  fX7_less_22 S2)
  else (
  if (S2.1 0) = (2 : Int32) then (
  fX7_less_22 S2)
  else (
  fX7_less_28 FU v1 (0 : Int32) (0 : Int32) S2))
def fX7_host_24 (t0 : Int32) (S : St) : Rs :=
  some (t0, S)
def fX7_host (v1 : Int32) (S : St) : Rs :=
  Bd (fX7_in v1 (0 : Int32) ((S.1 1) - (1 : Int32)) S) fun r1 S2 =>
  if r1 = 0 then (
  fX7_host_24 (-1 : Int32) S2)
  else (
  gA (inb v1 300) (
  fX7_host_24 (S2.2 2 (ix v1)) S2))
def fX7_load_24 (t0 : Int32) (S : St) : Rs :=
  some (t0, S)
def fX7_load (v1 : Int32) (S : St) : Rs :=
  Bd (fX7_in v1 (0 : Int32) ((S.1 0) - (1 : Int32)) S) fun r1 S2 =>
  if r1 = 0 then (
  fX7_load_24 (-1 : Int32) S2)
  else (
  gA (inb v1 8) (
  fX7_load_24 (S2.2 3 (ix v1)) S2))
def fX7_copies_43 (k13 : Int32 → Int32 → Int32 → St → Rs) (v1 v3 t0 t1 : Int32) (S : St) : Rs :=
  Lt (t1 ||| t0) fun x1 =>
  k13 v1 x1 (v3 + 1) S
def fX7_copies_13_b (k13 : Int32 → Int32 → Int32 → St → Rs) (v1 v2 v3 : Int32) (S : St) : Rs :=
  if (S.1 0) ≤ v3 then (
  some (v2, S))
  else (
  gA (inb (((8 : Int32) * v1) + v3) 320) (
  if (S.2 4 (ix (((8 : Int32) * v1) + v3))) ≤ 0 then (
  fX7_copies_43 k13 v1 v3 (0 : Int32) v2 S)
  else (
  fX7_copies_43 k13 v1 v3 ((1 : Int32) <<< (v3 &&& 31)) v2 S)))
def fX7_copies_13 : Nat → Int32 → Int32 → Int32 → St → Rs
  | 0 => fun _ _ _ _ => none
  | n + 1 => fX7_copies_13_b (fX7_copies_13 n)
def fX7_copies (v1 : Int32) (S : St) : Rs :=
  Bd (fX7_isPoint v1 S) fun r1 S2 =>
  if r1 = 0 then (
  some ((-1 : Int32), S2))
  else (
  fX7_copies_13 FU v1 (0 : Int32) (0 : Int32) S2)
def fX7_copiesOf_32 (k4 : Int32 → Int32 → Int32 → St → Rs) (v1 v3 t0 t1 : Int32) (S : St) : Rs :=
  Lt (t1 + t0) fun x1 =>
  k4 v1 x1 (v3 + 1) S
def fX7_copiesOf_4_b (k4 : Int32 → Int32 → Int32 → St → Rs) (v1 v2 v3 : Int32) (S : St) : Rs :=
  if (S.1 0) ≤ v3 then (
  some (v2, S))
  else (
  gA (inb (((8 : Int32) * v1) + v3) 320) (
  if (S.2 4 (ix (((8 : Int32) * v1) + v3))) ≤ 0 then (
  fX7_copiesOf_32 k4 v1 v3 (0 : Int32) v2 S)
  else (
  fX7_copiesOf_32 k4 v1 v3 (1 : Int32) v2 S)))
def fX7_copiesOf_4 : Nat → Int32 → Int32 → Int32 → St → Rs
  | 0 => fun _ _ _ _ => none
  | n + 1 => fX7_copiesOf_4_b (fX7_copiesOf_4 n)
def fX7_copiesOf (v1 : Int32) (S : St) : Rs :=
  fX7_copiesOf_4 FU v1 (0 : Int32) (0 : Int32) S
def fX7_all_4_b (k4 : Int32 → Int32 → St → Rs) (v1 v2 : Int32) (S : St) : Rs :=
  if (40 : Int32) ≤ v2 then (
  some (v1, S))
  else (
  Bd (fX7_copiesOf v2 S) fun r1 S2 =>
  Lt (v1 + r1) fun x3 =>
  k4 x3 (v2 + 1) S2)
def fX7_all_4 : Nat → Int32 → Int32 → St → Rs
  | 0 => fun _ _ _ => none
  | n + 1 => fX7_all_4_b (fX7_all_4 n)
def fX7_all (S : St) : Rs :=
  fX7_all_4 FU (0 : Int32) (0 : Int32) S
def fX7_dealt_207 (k48 : Int32 → Int32 → Int32 → St → Rs) (v2 v3 v4 : Int32) (S : St) : Rs :=
  k48 v2 v3 (v4 + 1) S
def fX7_dealt_186 (k48 : Int32 → Int32 → Int32 → St → Rs) (v2 v4 v5 t0 t1 : Int32) (S : St) : Rs :=
  Lt (t1 + t0) fun x1 =>
  gA (inb v4 300) (
  gA (inb (S.2 1 (ix v4)) 40) (
  gA (inb (S.2 1 (ix v4)) 40) (
  LtS (sA S 7 (ix (S.2 1 (ix v4))) ((S.2 7 (ix (S.2 1 (ix v4)))) ||| ((1 : Int32) <<< (v5 &&& 31)))) fun S2 =>
  fX7_dealt_207 k48 v2 x1 v4 S2)))
def fX7_dealt_139 (k48 : Int32 → Int32 → Int32 → St → Rs) (v2 v4 v5 t0 t1 : Int32) (S : St) : Rs :=
  Lt (t1 + t0) fun x1 =>
  gA (inb v4 300) (
  gA (inb (S.2 0 (ix v4)) 40) (
  gA (inb (S.2 0 (ix v4)) 40) (
  LtS (sA S 7 (ix (S.2 0 (ix v4))) ((S.2 7 (ix (S.2 0 (ix v4)))) ||| ((1 : Int32) <<< (v5 &&& 31)))) fun S2 =>
  gA (inb v4 300) (
  gA (inb (S2.2 1 (ix v4)) 40) (
  if (((S2.2 7 (ix (S2.2 1 (ix v4)))) >>> (v5 &&& 31)) &&& (1 : Int32)) = 0 then (
  fX7_dealt_186 k48 v2 v4 v5 (1 : Int32) x1 S2)
  else (
  fX7_dealt_186 k48 v2 v4 v5 (0 : Int32) x1 S2))))))
def fX7_dealt_48_b (k48 : Int32 → Int32 → Int32 → St → Rs) (v2 v3 v4 : Int32) (S : St) : Rs :=
  if (S.1 1) ≤ v4 then (
  some (v3, S))
  else (
  gA (inb v4 300) (
  if (S.2 2 (ix v4)) = (-1 : Int32) then (
  fX7_dealt_207 k48 v2 v3 v4 S)
  else (
  gA (nz (S.1 0)) (
  Lt (v2 - v2 / (S.1 0) * (S.1 0)) fun x1 =>
  gA (nz (S.1 0)) (
  Lt (v2 / (S.1 0)) fun x2 =>
  gA (inb x1 3) (
  gA (inb x1 3) (
  LtS (sA S 6 (ix x1) ((S.2 6 (ix x1)) + (1 : Int32))) fun S3 =>
  gA (inb x1 3) (
  Bd (fX7_room S3) fun r4 S5 =>
  if (S3.2 6 (ix x1)) ≤ r4 then (
  gA (inb v4 300) (
  gA (inb (S5.2 0 (ix v4)) 40) (
  if (((S5.2 7 (ix (S5.2 0 (ix v4)))) >>> (x1 &&& 31)) &&& (1 : Int32)) = 0 then (
  fX7_dealt_139 k48 x2 v4 x1 (1 : Int32) v3 S5)
  else (
  fX7_dealt_139 k48 x2 v4 x1 (0 : Int32) v3 S5))))
  else (
  some ((-1 : Int32), S5))))))))))
def fX7_dealt_48 : Nat → Int32 → Int32 → Int32 → St → Rs
  | 0 => fun _ _ _ _ => none
  | n + 1 => fX7_dealt_48_b (fX7_dealt_48 n)
def fX7_dealt_22_b (k22 : Int32 → Int32 → St → Rs) (v1 v2 : Int32) (S : St) : Rs :=
  if (40 : Int32) ≤ v2 then (
  fX7_dealt_48 FU v1 (0 : Int32) (0 : Int32) S)
  else (
  gA (inb v2 40) (
  LtS (sA S 7 (ix v2) (0 : Int32)) fun S1 =>
  k22 v1 (v2 + 1) S1))
def fX7_dealt_22 : Nat → Int32 → Int32 → St → Rs
  | 0 => fun _ _ _ => none
  | n + 1 => fX7_dealt_22_b (fX7_dealt_22 n)
def fX7_dealt_2_b (k2 : Int32 → Int32 → St → Rs) (v1 v2 : Int32) (S : St) : Rs :=
  if (3 : Int32) ≤ v2 then (
  fX7_dealt_22 FU v1 (0 : Int32) S)
  else (
  gA (inb v2 3) (
  LtS (sA S 6 (ix v2) (0 : Int32)) fun S1 =>
  k2 v1 (v2 + 1) S1))
def fX7_dealt_2 : Nat → Int32 → Int32 → St → Rs
  | 0 => fun _ _ _ => none
  | n + 1 => fX7_dealt_2_b (fX7_dealt_2 n)
def fX7_dealt (v1 : Int32) (S : St) : Rs :=
  fX7_dealt_2 FU v1 (0 : Int32) S
def fX7_best_21 (S : St) : Rs :=
  some ((-1 : Int32), S)
def fX7_best_84 (k52 : Int32 → Int32 → Int32 → St → Rs) (v1 v2 v3 : Int32) (S : St) : Rs :=
  k52 v1 v2 (v3 + 1) S
def fX7_best_81 (k52 : Int32 → Int32 → Int32 → St → Rs) (v1 v3 v4 : Int32) (S : St) : Rs :=
  fX7_best_84 k52 v1 v4 v3 S
def fX7_best_52_b (k52 : Int32 → Int32 → Int32 → St → Rs) (v1 v2 v3 : Int32) (S : St) : Rs :=
  if v1 ≤ v3 then (
  some (v2, S))
  else (
  Bd (fX7_dealt v3 S) fun r1 S2 =>
  if r1 = (-1 : Int32) then (
  fX7_best_84 k52 v1 v2 v3 S2)
  else (
  if v2 = (-1 : Int32) then (
  fX7_best_81 k52 v1 v3 r1 S2)
  else (
  if v2 ≤ r1 then (
  fX7_best_84 k52 v1 v2 v3 S2)
  else (
  fX7_best_81 k52 v1 v3 r1 S2))))
def fX7_best_52 : Nat → Int32 → Int32 → Int32 → St → Rs
  | 0 => fun _ _ _ _ => none
  | n + 1 => fX7_best_52_b (fX7_best_52 n)
def fX7_best_27_b (k27 : Int32 → Int32 → St → Rs) (v1 v2 : Int32) (S : St) : Rs :=
  if (S.1 2) ≤ v2 then (
  fX7_best_52 FU v1 (-1 : Int32) (0 : Int32) S)
  else (
  Lt (v1 * (S.1 0)) fun x1 =>
  k27 x1 (v2 + 1) S)
def fX7_best_27 : Nat → Int32 → Int32 → St → Rs
  | 0 => fun _ _ _ => none
  | n + 1 => fX7_best_27_b (fX7_best_27 n)
def fX7_best (S : St) : Rs :=
  Bd (fX7_in (S.1 2) (1 : Int32) (8 : Int32) S) fun r1 S2 =>
  if r1 = 0 then (
  fX7_best_21 S2)
  else (
  if (S2.1 0) ≤ (3 : Int32) then (
  fX7_best_27 FU (1 : Int32) (0 : Int32) S2)
  else (
  fX7_best_21 S2))
def fX7_runs_215 (k25 : Int32 → Int32 → St → Rs) (k185 : Int32 → Int32 → Int32 → St → Rs) (v1 v3 t0 : Int32) (S : St) : Rs :=
  gA (inb v3 40) (
  gA (inb v3 40) (
  LtS (sA S 8 (ix v3) (S.2 9 (ix v3))) fun S1 =>
  k185 v1 t0 (v3 + 1) S1))
def fX7_runs_210 (k25 : Int32 → Int32 → St → Rs) (k185 : Int32 → Int32 → Int32 → St → Rs) (v1 v3 : Int32) (S : St) : Rs :=
  fX7_runs_215 k25 k185 v1 v3 (1 : Int32) S
def fX7_runs_185_b (k25 : Int32 → Int32 → St → Rs) (k185 : Int32 → Int32 → Int32 → St → Rs) (v1 v2 v3 : Int32) (S : St) : Rs :=
  if (40 : Int32) ≤ v3 then (
  k25 v1 v2 S)
  else (
  if v2 = 0 then (
  gA (inb v3 40) (
  gA (inb v3 40) (
  if (S.2 9 (ix v3)) = (S.2 8 (ix v3)) then (
  fX7_runs_215 k25 k185 v1 v3 (0 : Int32) S)
  else (
  fX7_runs_210 k25 k185 v1 v3 S))))
  else (
  fX7_runs_210 k25 k185 v1 v3 S))
def fX7_runs_185 (k25 : Int32 → Int32 → St → Rs) : Nat → Int32 → Int32 → Int32 → St → Rs
  | 0 => fun _ _ _ _ => none
  | n + 1 => fX7_runs_185_b k25 (fX7_runs_185 k25 n)
def fX7_runs_177 (k25 : Int32 → Int32 → St → Rs) (k62 : Int32 → Int32 → Int32 → St → Rs) (v1 v2 v3 : Int32) (S : St) : Rs :=
  k62 v1 v2 (v3 + 1) S
def fX7_runs_130 (k25 : Int32 → Int32 → St → Rs) (k62 : Int32 → Int32 → Int32 → St → Rs) (v1 v2 v3 : Int32) (S : St) : Rs :=
  gA (inb v3 300) (
  gA (inb (S.2 0 (ix v3)) 40) (
  gA (inb v3 300) (
  gA (inb (S.2 1 (ix v3)) 40) (
  if (S.2 9 (ix (S.2 1 (ix v3)))) ≤ (S.2 8 (ix (S.2 0 (ix v3)))) then (
  fX7_runs_177 k25 k62 v1 v2 v3 S)
  else (
  gA (inb v3 300) (
  gA (inb v3 300) (
  gA (inb (S.2 0 (ix v3)) 40) (
  gA (inb (S.2 1 (ix v3)) 40) (
  LtS (sA S 9 (ix (S.2 1 (ix v3))) (S.2 8 (ix (S.2 0 (ix v3))))) fun S1 =>
  fX7_runs_177 k25 k62 v1 v2 v3 S1)))))))))
def fX7_runs_62_b (k25 : Int32 → Int32 → St → Rs) (k62 : Int32 → Int32 → Int32 → St → Rs) (v1 v2 v3 : Int32) (S : St) : Rs :=
  if (S.1 1) ≤ v3 then (
  fX7_runs_185 k25 FU v1 v2 (0 : Int32) S)
  else (
  gA (inb v3 300) (
  if (S.2 2 (ix v3)) = (-1 : Int32) then (
  fX7_runs_177 k25 k62 v1 v2 v3 S)
  else (
  gA (inb v3 300) (
  gA (inb (S.2 1 (ix v3)) 40) (
  gA (inb v3 300) (
  gA (inb (S.2 0 (ix v3)) 40) (
  if (S.2 9 (ix (S.2 0 (ix v3)))) ≤ (S.2 8 (ix (S.2 1 (ix v3)))) then (
  fX7_runs_130 k25 k62 v1 v2 v3 S)
  else (
  gA (inb v3 300) (
  gA (inb v3 300) (
  gA (inb (S.2 1 (ix v3)) 40) (
  gA (inb (S.2 0 (ix v3)) 40) (
  LtS (sA S 9 (ix (S.2 0 (ix v3))) (S.2 8 (ix (S.2 1 (ix v3))))) fun S1 =>
  fX7_runs_130 k25 k62 v1 v2 v3 S1))))))))))))
def fX7_runs_62 (k25 : Int32 → Int32 → St → Rs) : Nat → Int32 → Int32 → Int32 → St → Rs
  | 0 => fun _ _ _ _ => none
  | n + 1 => fX7_runs_62_b k25 (fX7_runs_62 k25 n)
def fX7_runs_36_b (k25 : Int32 → Int32 → St → Rs) (k36 : Int32 → Int32 → Int32 → St → Rs) (v1 v2 v3 : Int32) (S : St) : Rs :=
  if (40 : Int32) ≤ v3 then (
  fX7_runs_62 k25 FU v1 v2 (0 : Int32) S)
  else (
  gA (inb v3 40) (
  gA (inb v3 40) (
  LtS (sA S 9 (ix v3) (S.2 8 (ix v3))) fun S1 =>
  k36 v1 v2 (v3 + 1) S1)))
def fX7_runs_36 (k25 : Int32 → Int32 → St → Rs) : Nat → Int32 → Int32 → Int32 → St → Rs
  | 0 => fun _ _ _ _ => none
  | n + 1 => fX7_runs_36_b k25 (fX7_runs_36 k25 n)
def fX7_runs_25_b (k25 : Int32 → Int32 → St → Rs) (v1 v2 : Int32) (S : St) : Rs :=
  if v2 = 0 then (
  some (v1, S))
  else (
  fX7_runs_36 k25 FU (v1 + 1) (0 : Int32) (0 : Int32) S)
def fX7_runs_25 : Nat → Int32 → Int32 → St → Rs
  | 0 => fun _ _ _ => none
  | n + 1 => fX7_runs_25_b (fX7_runs_25 n)
def fX7_runs_2_b (k2 : Int32 → St → Rs) (v1 : Int32) (S : St) : Rs :=
  if (40 : Int32) ≤ v1 then (
  fX7_runs_25 FU (0 : Int32) (1 : Int32) S)
  else (
  gA (inb v1 40) (
  LtS (sA S 8 (ix v1) v1) fun S1 =>
  k2 (v1 + 1) S1))
def fX7_runs_2 : Nat → Int32 → St → Rs
  | 0 => fun _ _ => none
  | n + 1 => fX7_runs_2_b (fX7_runs_2 n)
def fX7_runs (S : St) : Rs :=
  fX7_runs_2 FU (0 : Int32) S
def fX7_part (v1 : Int32) (S : St) : Rs :=
  Bd (fX7_isPoint v1 S) fun r1 S2 =>
  if r1 = 0 then (
  some ((-1 : Int32), S2))
  else (
  Bd (fX7_runs S2) fun r3 S4 =>
  gA (inb v1 40) (
  some ((S4.2 8 (ix v1)), S4)))
def fX7_run_112 (t0 : Int32) (S : St) : Rs :=
  some (t0, S)
def fX7_run_82 (k24 : Int32 → Int32 → Int32 → Int32 → Int32 → St → Rs) (v1 v2 v3 v5 t0 t1 : Int32) (S : St) : Rs :=
  Lt (t1 + t0) fun x1 =>
  k24 v1 v2 v3 x1 (v5 + 1) S
def fX7_run_81 (k24 : Int32 → Int32 → Int32 → Int32 → Int32 → St → Rs) (v1 v2 v3 v5 t0 : Int32) (S : St) : Rs :=
  fX7_run_82 k24 v1 v2 v3 v5 (0 : Int32) t0 S
def fX7_run_56 (k24 : Int32 → Int32 → Int32 → Int32 → Int32 → St → Rs) (v1 v2 v4 v5 v6 t0 t1 : Int32) (S : St) : Rs :=
  Lt (t1 + t0) fun x1 =>
  if v6 ≤ 0 then (
  fX7_run_81 k24 v1 v2 x1 v5 v4 S)
  else (
  gA (inb v5 40) (
  if (S.2 8 (ix v5)) = v5 then (
  fX7_run_82 k24 v1 v2 x1 v5 (1 : Int32) v4 S)
  else (
  fX7_run_81 k24 v1 v2 x1 v5 v4 S)))
def fX7_run_24_b (k24 : Int32 → Int32 → Int32 → Int32 → Int32 → St → Rs) (v1 v2 v3 v4 v5 : Int32) (S : St) : Rs :=
  if (40 : Int32) ≤ v5 then (
  if v1 = 0 then (
  fX7_run_112 v2 S)
  else (
  if v1 = (1 : Int32) then (
  fX7_run_112 (v2 * v3) S)
  else (
  fX7_run_112 v4 S)))
  else (
  Bd (fX7_copiesOf v5 S) fun r1 S2 =>
  if r1 ≤ (1 : Int32) then (
  fX7_run_56 k24 v1 v2 v4 v5 r1 (0 : Int32) v3 S2)
  else (
  fX7_run_56 k24 v1 v2 v4 v5 r1 ((2 : Int32) * (r1 - (1 : Int32))) v3 S2))
def fX7_run_24 : Nat → Int32 → Int32 → Int32 → Int32 → Int32 → St → Rs
  | 0 => fun _ _ _ _ _ _ => none
  | n + 1 => fX7_run_24_b (fX7_run_24 n)
def fX7_run (v1 : Int32) (S : St) : Rs :=
  Bd (fX7_in v1 (0 : Int32) (2 : Int32) S) fun r1 S2 =>
  if r1 = 0 then (
  some ((-1 : Int32), S2))
  else (
  Bd (fX7_runs S2) fun r3 S4 =>
  fX7_run_24 FU v1 r3 (0 : Int32) (0 : Int32) (0 : Int32) S4)
def fX7_master_113 (k34 : Int32 → Int32 → Int32 → St → Rs) (v1 v2 v3 : Int32) (S : St) : Rs :=
  k34 v1 v2 (v3 + 1) S
def fX7_master_92 (k34 : Int32 → Int32 → Int32 → St → Rs) (k44 : Int32 → Int32 → Int32 → Int32 → St → Rs) (v1 v2 v3 v4 : Int32) (S : St) : Rs :=
  k44 v1 v2 v3 (v4 + 1) S
def fX7_master_89 (k34 : Int32 → Int32 → Int32 → St → Rs) (k44 : Int32 → Int32 → Int32 → Int32 → St → Rs) (v1 v3 v4 : Int32) (S : St) : Rs :=
  fX7_master_92 k34 k44 v1 v4 v3 v4 S
def fX7_master_44_b (k34 : Int32 → Int32 → Int32 → St → Rs) (k44 : Int32 → Int32 → Int32 → Int32 → St → Rs) (v1 v2 v3 v4 : Int32) (S : St) : Rs :=
  if (S.1 0) ≤ v4 then (
  if v2 = (-1 : Int32) then (
  fX7_master_113 k34 v1 v2 v3 S)
  else (
  gA (inb v2 8) (
  gA (inb v2 8) (
  LtS (sA S 10 (ix v2) ((S.2 10 (ix v2)) + (1 : Int32))) fun S1 =>
  fX7_master_113 k34 v1 v2 v3 S1))))
  else (
  gA (inb (((8 : Int32) * v3) + v4) 320) (
  if (S.2 4 (ix (((8 : Int32) * v3) + v4))) ≤ 0 then (
  fX7_master_92 k34 k44 v1 v2 v3 v4 S)
  else (
  if v2 = (-1 : Int32) then (
  fX7_master_89 k34 k44 v1 v3 v4 S)
  else (
  gA (inb v4 8) (
  gA (inb v2 8) (
  if (S.2 10 (ix v2)) ≤ (S.2 10 (ix v4)) then (
  fX7_master_92 k34 k44 v1 v2 v3 v4 S)
  else (
  fX7_master_89 k34 k44 v1 v3 v4 S)))))))
def fX7_master_44 (k34 : Int32 → Int32 → Int32 → St → Rs) : Nat → Int32 → Int32 → Int32 → Int32 → St → Rs
  | 0 => fun _ _ _ _ _ => none
  | n + 1 => fX7_master_44_b k34 (fX7_master_44 k34 n)
def fX7_master_34_b (k34 : Int32 → Int32 → Int32 → St → Rs) (v1 v2 v3 : Int32) (S : St) : Rs :=
  if v1 < v3 then (
  some (v2, S))
  else (
  fX7_master_44 k34 FU v1 (-1 : Int32) v3 (0 : Int32) S)
def fX7_master_34 : Nat → Int32 → Int32 → Int32 → St → Rs
  | 0 => fun _ _ _ _ => none
  | n + 1 => fX7_master_34_b (fX7_master_34 n)
def fX7_master_11_b (k11 : Int32 → Int32 → St → Rs) (v1 v2 : Int32) (S : St) : Rs :=
  if (8 : Int32) ≤ v2 then (
  fX7_master_34 FU v1 (-1 : Int32) (0 : Int32) S)
  else (
  gA (inb v2 8) (
  LtS (sA S 10 (ix v2) (0 : Int32)) fun S1 =>
  k11 v1 (v2 + 1) S1))
def fX7_master_11 : Nat → Int32 → Int32 → St → Rs
  | 0 => fun _ _ _ => none
  | n + 1 => fX7_master_11_b (fX7_master_11 n)
def fX7_master (v1 : Int32) (S : St) : Rs :=
  Bd (fX7_isPoint v1 S) fun r1 S2 =>
  if r1 = 0 then (
  some ((-1 : Int32), S2))
  else (
  fX7_master_11 FU v1 (0 : Int32) S2)
def fX7_count_116 (k91 : Int32 → Int32 → St → Rs) (v2 v3 : Int32) (S : St) : Rs :=
  k91 v2 (v3 + 1) S
def fX7_count_91_b (k91 : Int32 → Int32 → St → Rs) (v2 v3 : Int32) (S : St) : Rs :=
  if (S.1 0) ≤ v3 then (
  some (v2, S))
  else (
  gA (inb v3 8) (
  if v2 ≤ (S.2 3 (ix v3)) then (
  fX7_count_116 k91 v2 v3 S)
  else (
  gA (inb v3 8) (
  Lt (S.2 3 (ix v3)) fun x1 =>
  fX7_count_116 k91 x1 v3 S))))
def fX7_count_91 : Nat → Int32 → Int32 → St → Rs
  | 0 => fun _ _ _ => none
  | n + 1 => fX7_count_91_b (fX7_count_91 n)
def fX7_count_146 (k126 : Int32 → Int32 → St → Rs) (v3 t0 t1 : Int32) (S : St) : Rs :=
  Lt (t1 + t0) fun x1 =>
  k126 x1 (v3 + 1) S
def fX7_count_126_b (k126 : Int32 → Int32 → St → Rs) (v2 v3 : Int32) (S : St) : Rs :=
  if (40 : Int32) ≤ v3 then (
  some (v2, S))
  else (
  Bd (fX7_copiesOf v3 S) fun r1 S2 =>
  if r1 ≤ 0 then (
  fX7_count_146 k126 v3 (0 : Int32) v2 S2)
  else (
  fX7_count_146 k126 v3 (1 : Int32) v2 S2))
def fX7_count_126 : Nat → Int32 → Int32 → St → Rs
  | 0 => fun _ _ _ => none
  | n + 1 => fX7_count_126_b (fX7_count_126 n)
def fX7_count (v1 : Int32) (S : St) : Rs :=
  if v1 = 0 then (
  some ((S.1 0), S))
  else (if v1 = 1 then (
  some ((S.1 1), S))
  else (if v1 = 2 then (
  some ((S.1 2), S))
  else (if v1 = 3 then (
  some ((S.1 7), S))
  else (if v1 = 4 then (
  Bd (fX7_greatest S) fun r1 S2 =>
  some (r1, S2))
  else (if v1 = 5 then (
  fX7_count_91 FU (300 : Int32) (0 : Int32) S)
  else (if v1 = 6 then (
  fX7_count_126 FU (0 : Int32) (0 : Int32) S)
  else (if v1 = 7 then (
  some ((S.1 6), S))
  else (if v1 = 8 then (
  some ((S.1 4), S))
  else (if v1 = 9 then (
  some ((S.1 5), S))
  else (if v1 = 10 then (
  some ((S.1 3), S))
  else (
  some ((-1 : Int32), S))))))))))))
end
section
def oX0 (a : Nat → Nat) (S : St) : List Value := [.ref (a 1), .ref (a 2), .ref (a 3), .ref (a 4), .ref (a 5), .ref (a 6), .ref (a 7), .int (S.1 0), .int (S.1 1)]
def oX1 (a : Nat → Nat) (S : St) : List Value := [.ref (a 8), .ref (a 9), .ref (a 10), .ref (a 11), .ref (a 12), .ref (a 13), .ref (a 14), .int (S.1 2), .int (S.1 3), .int (S.1 4), .int (S.1 5)]
def oX2 (a : Nat → Nat) (S : St) : List Value := [.ref (a 1), .int (S.1 6), .int (S.1 7), .int (S.1 8)]
def oX3 (a : Nat → Nat) (S : St) : List Value := [.ref (a 1), .int (S.1 9), .int (S.1 10), .int (S.1 11), .int (S.1 12)]
def oX4 (a : Nat → Nat) (S : St) : List Value := [.ref (a 1), .ref (a 15), .ref (a 16), .ref (a 17), .int (S.1 13), .int (S.1 14), .int (S.1 15)]
def oX5 (a : Nat → Nat) (S : St) : List Value := [.ref (a 1), .ref (a 18), .ref (a 19), .int (S.1 16)]
def oX6 (a : Nat → Nat) (S : St) : List Value := [.ref (a 1), .ref (a 20)]
def wX (a : Nat → Nat) (cA : ClassId) (S : St) : va_W := [(a 0, .inr (6, oX0 a S)), (a 1, .inr (4, oX1 a S)), (a 2, .inr (1, oX2 a S)), (a 3, .inr (3, oX3 a S)), (a 4, .inr (0, oX4 a S)), (a 5, .inr (5, oX5 a S)), (a 6, .inr (2, oX6 a S)), (a 7, .inl (cA, 300, .inl (S.2 0))), (a 8, .inl (cA, 300, .inl (S.2 1))), (a 9, .inl (cA, 300, .inl (S.2 2))), (a 10, .inl (cA, 300, .inl (S.2 3))), (a 11, .inl (cA, 8, .inl (S.2 4))), (a 12, .inl (cA, 40, .inl (S.2 5))), (a 13, .inl (cA, 40, .inl (S.2 6))), (a 14, .inl (cA, 320, .inl (S.2 7))), (a 15, .inl (cA, 8, .inl (S.2 8))), (a 16, .inl (cA, 3, .inl (S.2 9))), (a 17, .inl (cA, 40, .inl (S.2 10))), (a 18, .inl (cA, 40, .inl (S.2 11))), (a 19, .inl (cA, 40, .inl (S.2 12))), (a 20, .inl (cA, 8, .inl (S.2 13)))]
set_option maxRecDepth 20000 in
theorem inX6 : ∀ w ∈ u_ws RX6 TX6 9, w ∈ tbG := wmu (by decide +kernel) (by decide +kernel)
set_option maxRecDepth 20000 in
theorem inX4 : ∀ w ∈ u_ws RX4 TX4 11, w ∈ tbG := wmu (by decide +kernel) (by decide +kernel)
set_option maxRecDepth 20000 in
theorem inX1 : ∀ w ∈ u_ws RX1 TX1 4, w ∈ tbG := wmu (by decide +kernel) (by decide +kernel)
set_option maxRecDepth 20000 in
theorem inX3 : ∀ w ∈ u_ws RX3 TX3 5, w ∈ tbG := wmu (by decide +kernel) (by decide +kernel)
set_option maxRecDepth 20000 in
theorem inX0 : ∀ w ∈ u_ws RX0 TX0 7, w ∈ tbG := wmu (by decide +kernel) (by decide +kernel)
set_option maxRecDepth 20000 in
theorem inX5 : ∀ w ∈ u_ws RX5 TX5 4, w ∈ tbG := wmu (by decide +kernel) (by decide +kernel)
set_option maxRecDepth 20000 in
theorem inX2 : ∀ w ∈ u_ws RX2 TX2 2, w ∈ tbG := wmu (by decide +kernel) (by decide +kernel)
section WRX
variable {D : va_G} {a : Nat → Nat} {cA cZ : ClassId} {p : Program} {l : Launch} {e : Env} {s : State} {m : MethodId} {args : Array Value} {below : List Frame} {meth : Method} {c : Code} {A : Nat → Prop}
variable {d : Nat} {cc : ByteArray} {nL : Nat} {own : String} {ret : Option FieldType} {Qf : Int32 → St → Array Value → State → Outcome → State → Prop} {X : Rs} {pc : Nat} {st : List Value} {lv : List (Nat × Value)} {S : St}
theorem gtX_X6_net (C : CX D [(cA, .int)] p s m args meth c A cc nL own ret) {index : Nat} (hlink : Cond.fieldLink own index "LineDealer" "net" "LLineDealer$Net;" ∈ tbG) (hd : decode cc pc = .ok (.getfield index, 3)) (k : RU D (wX a cA) p l e d s m args below meth c A nL Qf X (pc+3) (.ref (a 1) :: st) lv S) : RU D (wX a cA) p l e d s m args below meth c A nL Qf X (pc) (.ref (a 0) :: st) lv S := R_get C inX6 0 (b := a 0) (fs := oX0 a S) (ci := 6) rfl rfl 0 (by decide) hlink rfl rfl hd k
theorem gtX_X6_dealing (C : CX D [(cA, .int)] p s m args meth c A cc nL own ret) {index : Nat} (hlink : Cond.fieldLink own index "LineDealer" "dealing" "LLineDealer$Dealing;" ∈ tbG) (hd : decode cc pc = .ok (.getfield index, 3)) (k : RU D (wX a cA) p l e d s m args below meth c A nL Qf X (pc+3) (.ref (a 2) :: st) lv S) : RU D (wX a cA) p l e d s m args below meth c A nL Qf X (pc) (.ref (a 0) :: st) lv S := R_get C inX6 0 (b := a 0) (fs := oX0 a S) (ci := 6) rfl rfl 1 (by decide) hlink rfl rfl hd k
theorem gtX_X6_moveSearch (C : CX D [(cA, .int)] p s m args meth c A cc nL own ret) {index : Nat} (hlink : Cond.fieldLink own index "LineDealer" "moveSearch" "LLineDealer$MoveSearch;" ∈ tbG) (hd : decode cc pc = .ok (.getfield index, 3)) (k : RU D (wX a cA) p l e d s m args below meth c A nL Qf X (pc+3) (.ref (a 3) :: st) lv S) : RU D (wX a cA) p l e d s m args below meth c A nL Qf X (pc) (.ref (a 0) :: st) lv S := R_get C inX6 0 (b := a 0) (fs := oX0 a S) (ci := 6) rfl rfl 2 (by decide) hlink rfl rfl hd k
theorem gtX_X6_bestSearch (C : CX D [(cA, .int)] p s m args meth c A cc nL own ret) {index : Nat} (hlink : Cond.fieldLink own index "LineDealer" "bestSearch" "LLineDealer$BestSearch;" ∈ tbG) (hd : decode cc pc = .ok (.getfield index, 3)) (k : RU D (wX a cA) p l e d s m args below meth c A nL Qf X (pc+3) (.ref (a 4) :: st) lv S) : RU D (wX a cA) p l e d s m args below meth c A nL Qf X (pc) (.ref (a 0) :: st) lv S := R_get C inX6 0 (b := a 0) (fs := oX0 a S) (ci := 6) rfl rfl 3 (by decide) hlink rfl rfl hd k
theorem gtX_X6_spreading (C : CX D [(cA, .int)] p s m args meth c A cc nL own ret) {index : Nat} (hlink : Cond.fieldLink own index "LineDealer" "spreading" "LLineDealer$Spreading;" ∈ tbG) (hd : decode cc pc = .ok (.getfield index, 3)) (k : RU D (wX a cA) p l e d s m args below meth c A nL Qf X (pc+3) (.ref (a 5) :: st) lv S) : RU D (wX a cA) p l e d s m args below meth c A nL Qf X (pc) (.ref (a 0) :: st) lv S := R_get C inX6 0 (b := a 0) (fs := oX0 a S) (ci := 6) rfl rfl 4 (by decide) hlink rfl rfl hd k
theorem gtX_X6_mastering (C : CX D [(cA, .int)] p s m args meth c A cc nL own ret) {index : Nat} (hlink : Cond.fieldLink own index "LineDealer" "mastering" "LLineDealer$Mastering;" ∈ tbG) (hd : decode cc pc = .ok (.getfield index, 3)) (k : RU D (wX a cA) p l e d s m args below meth c A nL Qf X (pc+3) (.ref (a 6) :: st) lv S) : RU D (wX a cA) p l e d s m args below meth c A nL Qf X (pc) (.ref (a 0) :: st) lv S := R_get C inX6 0 (b := a 0) (fs := oX0 a S) (ci := 6) rfl rfl 5 (by decide) hlink rfl rfl hd k
theorem gtX_X6_waiting (C : CX D [(cA, .int)] p s m args meth c A cc nL own ret) {index : Nat} (hlink : Cond.fieldLink own index "LineDealer" "waiting" "[I" ∈ tbG) (hd : decode cc pc = .ok (.getfield index, 3)) (k : RU D (wX a cA) p l e d s m args below meth c A nL Qf X (pc+3) (.ref (a 7) :: st) lv S) : RU D (wX a cA) p l e d s m args below meth c A nL Qf X (pc) (.ref (a 0) :: st) lv S := R_get C inX6 0 (b := a 0) (fs := oX0 a S) (ci := 6) rfl rfl 6 (by decide) hlink rfl rfl hd k
theorem gtX_X6_windowSize (C : CX D [(cA, .int)] p s m args meth c A cc nL own ret) {index : Nat} (hlink : Cond.fieldLink own index "LineDealer" "windowSize" "I" ∈ tbG) (hd : decode cc pc = .ok (.getfield index, 3)) (k : RU D (wX a cA) p l e d s m args below meth c A nL Qf X (pc+3) (.int (S.1 0) :: st) lv S) : RU D (wX a cA) p l e d s m args below meth c A nL Qf X (pc) (.ref (a 0) :: st) lv S := R_get C inX6 0 (b := a 0) (fs := oX0 a S) (ci := 6) rfl rfl 7 (by decide) hlink rfl rfl hd k
theorem ptX_X6_windowSize (C : CX D [(cA, .int)] p s m args meth c A cc nL own ret) {index : Nat} {x : Int32} (hlink : Cond.fieldLink own index "LineDealer" "windowSize" "I" ∈ tbG) (hd : decode cc pc = .ok (.putfield index, 3)) (k : RU D (wX a cA) p l e d s m args below meth c A nL Qf X (pc+3) (st) lv (sF S 0 x)) : RU D (wX a cA) p l e d s m args below meth c A nL Qf X (pc) (.int x :: .ref (a 0) :: st) lv S := R_put C inX6 tyX6 tyX6_ok nmX6 0 (b := a 0) (fs := oX0 a S) (ci := 6) rfl rfl 7 (by decide) hlink rfl rfl rfl (by simp [oX0]) (S1 := sF S 0 x) rfl hd k
theorem gtX_X6_movesEver (C : CX D [(cA, .int)] p s m args meth c A cc nL own ret) {index : Nat} (hlink : Cond.fieldLink own index "LineDealer" "movesEver" "I" ∈ tbG) (hd : decode cc pc = .ok (.getfield index, 3)) (k : RU D (wX a cA) p l e d s m args below meth c A nL Qf X (pc+3) (.int (S.1 1) :: st) lv S) : RU D (wX a cA) p l e d s m args below meth c A nL Qf X (pc) (.ref (a 0) :: st) lv S := R_get C inX6 0 (b := a 0) (fs := oX0 a S) (ci := 6) rfl rfl 8 (by decide) hlink rfl rfl hd k
theorem ptX_X6_movesEver (C : CX D [(cA, .int)] p s m args meth c A cc nL own ret) {index : Nat} {x : Int32} (hlink : Cond.fieldLink own index "LineDealer" "movesEver" "I" ∈ tbG) (hd : decode cc pc = .ok (.putfield index, 3)) (k : RU D (wX a cA) p l e d s m args below meth c A nL Qf X (pc+3) (st) lv (sF S 1 x)) : RU D (wX a cA) p l e d s m args below meth c A nL Qf X (pc) (.int x :: .ref (a 0) :: st) lv S := R_put C inX6 tyX6 tyX6_ok nmX6 0 (b := a 0) (fs := oX0 a S) (ci := 6) rfl rfl 8 (by decide) hlink rfl rfl rfl (by simp [oX0]) (S1 := sF S 1 x) rfl hd k
theorem gtX_X4_firstEnd (C : CX D [(cA, .int)] p s m args meth c A cc nL own ret) {index : Nat} (hlink : Cond.fieldLink own index "LineDealer$Net" "firstEnd" "[I" ∈ tbG) (hd : decode cc pc = .ok (.getfield index, 3)) (k : RU D (wX a cA) p l e d s m args below meth c A nL Qf X (pc+3) (.ref (a 8) :: st) lv S) : RU D (wX a cA) p l e d s m args below meth c A nL Qf X (pc) (.ref (a 1) :: st) lv S := R_get C inX4 1 (b := a 1) (fs := oX1 a S) (ci := 4) rfl rfl 0 (by decide) hlink rfl rfl hd k
theorem gtX_X4_secondEnd (C : CX D [(cA, .int)] p s m args meth c A cc nL own ret) {index : Nat} (hlink : Cond.fieldLink own index "LineDealer$Net" "secondEnd" "[I" ∈ tbG) (hd : decode cc pc = .ok (.getfield index, 3)) (k : RU D (wX a cA) p l e d s m args below meth c A nL Qf X (pc+3) (.ref (a 9) :: st) lv S) : RU D (wX a cA) p l e d s m args below meth c A nL Qf X (pc) (.ref (a 1) :: st) lv S := R_get C inX4 1 (b := a 1) (fs := oX1 a S) (ci := 4) rfl rfl 1 (by decide) hlink rfl rfl hd k
theorem gtX_X4_hostOf (C : CX D [(cA, .int)] p s m args meth c A cc nL own ret) {index : Nat} (hlink : Cond.fieldLink own index "LineDealer$Net" "hostOf" "[I" ∈ tbG) (hd : decode cc pc = .ok (.getfield index, 3)) (k : RU D (wX a cA) p l e d s m args below meth c A nL Qf X (pc+3) (.ref (a 10) :: st) lv S) : RU D (wX a cA) p l e d s m args below meth c A nL Qf X (pc) (.ref (a 1) :: st) lv S := R_get C inX4 1 (b := a 1) (fs := oX1 a S) (ci := 4) rfl rfl 2 (by decide) hlink rfl rfl hd k
theorem gtX_X4_loads (C : CX D [(cA, .int)] p s m args meth c A cc nL own ret) {index : Nat} (hlink : Cond.fieldLink own index "LineDealer$Net" "loads" "[I" ∈ tbG) (hd : decode cc pc = .ok (.getfield index, 3)) (k : RU D (wX a cA) p l e d s m args below meth c A nL Qf X (pc+3) (.ref (a 11) :: st) lv S) : RU D (wX a cA) p l e d s m args below meth c A nL Qf X (pc) (.ref (a 1) :: st) lv S := R_get C inX4 1 (b := a 1) (fs := oX1 a S) (ci := 4) rfl rfl 3 (by decide) hlink rfl rfl hd k
theorem gtX_X4_degrees (C : CX D [(cA, .int)] p s m args meth c A cc nL own ret) {index : Nat} (hlink : Cond.fieldLink own index "LineDealer$Net" "degrees" "[I" ∈ tbG) (hd : decode cc pc = .ok (.getfield index, 3)) (k : RU D (wX a cA) p l e d s m args below meth c A nL Qf X (pc+3) (.ref (a 12) :: st) lv S) : RU D (wX a cA) p l e d s m args below meth c A nL Qf X (pc) (.ref (a 1) :: st) lv S := R_get C inX4 1 (b := a 1) (fs := oX1 a S) (ci := 4) rfl rfl 4 (by decide) hlink rfl rfl hd k
theorem gtX_X4_copyBits (C : CX D [(cA, .int)] p s m args meth c A cc nL own ret) {index : Nat} (hlink : Cond.fieldLink own index "LineDealer$Net" "copyBits" "[I" ∈ tbG) (hd : decode cc pc = .ok (.getfield index, 3)) (k : RU D (wX a cA) p l e d s m args below meth c A nL Qf X (pc+3) (.ref (a 13) :: st) lv S) : RU D (wX a cA) p l e d s m args below meth c A nL Qf X (pc) (.ref (a 1) :: st) lv S := R_get C inX4 1 (b := a 1) (fs := oX1 a S) (ci := 4) rfl rfl 5 (by decide) hlink rfl rfl hd k
theorem gtX_X4_linesAt (C : CX D [(cA, .int)] p s m args meth c A cc nL own ret) {index : Nat} (hlink : Cond.fieldLink own index "LineDealer$Net" "linesAt" "[I" ∈ tbG) (hd : decode cc pc = .ok (.getfield index, 3)) (k : RU D (wX a cA) p l e d s m args below meth c A nL Qf X (pc+3) (.ref (a 14) :: st) lv S) : RU D (wX a cA) p l e d s m args below meth c A nL Qf X (pc) (.ref (a 1) :: st) lv S := R_get C inX4 1 (b := a 1) (fs := oX1 a S) (ci := 4) rfl rfl 6 (by decide) hlink rfl rfl hd k
theorem gtX_X4_hosts (C : CX D [(cA, .int)] p s m args meth c A cc nL own ret) {index : Nat} (hlink : Cond.fieldLink own index "LineDealer$Net" "hosts" "I" ∈ tbG) (hd : decode cc pc = .ok (.getfield index, 3)) (k : RU D (wX a cA) p l e d s m args below meth c A nL Qf X (pc+3) (.int (S.1 2) :: st) lv S) : RU D (wX a cA) p l e d s m args below meth c A nL Qf X (pc) (.ref (a 1) :: st) lv S := R_get C inX4 1 (b := a 1) (fs := oX1 a S) (ci := 4) rfl rfl 7 (by decide) hlink rfl rfl hd k
theorem ptX_X4_hosts (C : CX D [(cA, .int)] p s m args meth c A cc nL own ret) {index : Nat} {x : Int32} (hlink : Cond.fieldLink own index "LineDealer$Net" "hosts" "I" ∈ tbG) (hd : decode cc pc = .ok (.putfield index, 3)) (k : RU D (wX a cA) p l e d s m args below meth c A nL Qf X (pc+3) (st) lv (sF S 2 x)) : RU D (wX a cA) p l e d s m args below meth c A nL Qf X (pc) (.int x :: .ref (a 1) :: st) lv S := R_put C inX4 tyX4 tyX4_ok nmX4 1 (b := a 1) (fs := oX1 a S) (ci := 4) rfl rfl 7 (by decide) hlink rfl rfl rfl (by simp [oX1]) (S1 := sF S 2 x) rfl hd k
theorem gtX_X4_came (C : CX D [(cA, .int)] p s m args meth c A cc nL own ret) {index : Nat} (hlink : Cond.fieldLink own index "LineDealer$Net" "came" "I" ∈ tbG) (hd : decode cc pc = .ok (.getfield index, 3)) (k : RU D (wX a cA) p l e d s m args below meth c A nL Qf X (pc+3) (.int (S.1 3) :: st) lv S) : RU D (wX a cA) p l e d s m args below meth c A nL Qf X (pc) (.ref (a 1) :: st) lv S := R_get C inX4 1 (b := a 1) (fs := oX1 a S) (ci := 4) rfl rfl 8 (by decide) hlink rfl rfl hd k
theorem ptX_X4_came (C : CX D [(cA, .int)] p s m args meth c A cc nL own ret) {index : Nat} {x : Int32} (hlink : Cond.fieldLink own index "LineDealer$Net" "came" "I" ∈ tbG) (hd : decode cc pc = .ok (.putfield index, 3)) (k : RU D (wX a cA) p l e d s m args below meth c A nL Qf X (pc+3) (st) lv (sF S 3 x)) : RU D (wX a cA) p l e d s m args below meth c A nL Qf X (pc) (.int x :: .ref (a 1) :: st) lv S := R_put C inX4 tyX4 tyX4_ok nmX4 1 (b := a 1) (fs := oX1 a S) (ci := 4) rfl rfl 8 (by decide) hlink rfl rfl rfl (by simp [oX1]) (S1 := sF S 3 x) rfl hd k
theorem gtX_X4_live (C : CX D [(cA, .int)] p s m args meth c A cc nL own ret) {index : Nat} (hlink : Cond.fieldLink own index "LineDealer$Net" "live" "I" ∈ tbG) (hd : decode cc pc = .ok (.getfield index, 3)) (k : RU D (wX a cA) p l e d s m args below meth c A nL Qf X (pc+3) (.int (S.1 4) :: st) lv S) : RU D (wX a cA) p l e d s m args below meth c A nL Qf X (pc) (.ref (a 1) :: st) lv S := R_get C inX4 1 (b := a 1) (fs := oX1 a S) (ci := 4) rfl rfl 9 (by decide) hlink rfl rfl hd k
theorem ptX_X4_live (C : CX D [(cA, .int)] p s m args meth c A cc nL own ret) {index : Nat} {x : Int32} (hlink : Cond.fieldLink own index "LineDealer$Net" "live" "I" ∈ tbG) (hd : decode cc pc = .ok (.putfield index, 3)) (k : RU D (wX a cA) p l e d s m args below meth c A nL Qf X (pc+3) (st) lv (sF S 4 x)) : RU D (wX a cA) p l e d s m args below meth c A nL Qf X (pc) (.int x :: .ref (a 1) :: st) lv S := R_put C inX4 tyX4 tyX4_ok nmX4 1 (b := a 1) (fs := oX1 a S) (ci := 4) rfl rfl 9 (by decide) hlink rfl rfl rfl (by simp [oX1]) (S1 := sF S 4 x) rfl hd k
theorem gtX_X4_allCopies (C : CX D [(cA, .int)] p s m args meth c A cc nL own ret) {index : Nat} (hlink : Cond.fieldLink own index "LineDealer$Net" "allCopies" "I" ∈ tbG) (hd : decode cc pc = .ok (.getfield index, 3)) (k : RU D (wX a cA) p l e d s m args below meth c A nL Qf X (pc+3) (.int (S.1 5) :: st) lv S) : RU D (wX a cA) p l e d s m args below meth c A nL Qf X (pc) (.ref (a 1) :: st) lv S := R_get C inX4 1 (b := a 1) (fs := oX1 a S) (ci := 4) rfl rfl 10 (by decide) hlink rfl rfl hd k
theorem ptX_X4_allCopies (C : CX D [(cA, .int)] p s m args meth c A cc nL own ret) {index : Nat} {x : Int32} (hlink : Cond.fieldLink own index "LineDealer$Net" "allCopies" "I" ∈ tbG) (hd : decode cc pc = .ok (.putfield index, 3)) (k : RU D (wX a cA) p l e d s m args below meth c A nL Qf X (pc+3) (st) lv (sF S 5 x)) : RU D (wX a cA) p l e d s m args below meth c A nL Qf X (pc) (.int x :: .ref (a 1) :: st) lv S := R_put C inX4 tyX4 tyX4_ok nmX4 1 (b := a 1) (fs := oX1 a S) (ci := 4) rfl rfl 10 (by decide) hlink rfl rfl rfl (by simp [oX1]) (S1 := sF S 5 x) rfl hd k
theorem gtX_X1_net (C : CX D [(cA, .int)] p s m args meth c A cc nL own ret) {index : Nat} (hlink : Cond.fieldLink own index "LineDealer$Dealing" "net" "LLineDealer$Net;" ∈ tbG) (hd : decode cc pc = .ok (.getfield index, 3)) (k : RU D (wX a cA) p l e d s m args below meth c A nL Qf X (pc+3) (.ref (a 1) :: st) lv S) : RU D (wX a cA) p l e d s m args below meth c A nL Qf X (pc) (.ref (a 2) :: st) lv S := R_get C inX1 2 (b := a 2) (fs := oX2 a S) (ci := 1) rfl rfl 0 (by decide) hlink rfl rfl hd k
theorem gtX_X1_ruleNow (C : CX D [(cA, .int)] p s m args meth c A cc nL own ret) {index : Nat} (hlink : Cond.fieldLink own index "LineDealer$Dealing" "ruleNow" "I" ∈ tbG) (hd : decode cc pc = .ok (.getfield index, 3)) (k : RU D (wX a cA) p l e d s m args below meth c A nL Qf X (pc+3) (.int (S.1 6) :: st) lv S) : RU D (wX a cA) p l e d s m args below meth c A nL Qf X (pc) (.ref (a 2) :: st) lv S := R_get C inX1 2 (b := a 2) (fs := oX2 a S) (ci := 1) rfl rfl 1 (by decide) hlink rfl rfl hd k
theorem ptX_X1_ruleNow (C : CX D [(cA, .int)] p s m args meth c A cc nL own ret) {index : Nat} {x : Int32} (hlink : Cond.fieldLink own index "LineDealer$Dealing" "ruleNow" "I" ∈ tbG) (hd : decode cc pc = .ok (.putfield index, 3)) (k : RU D (wX a cA) p l e d s m args below meth c A nL Qf X (pc+3) (st) lv (sF S 6 x)) : RU D (wX a cA) p l e d s m args below meth c A nL Qf X (pc) (.int x :: .ref (a 2) :: st) lv S := R_put C inX1 tyX1 tyX1_ok nmX1 2 (b := a 2) (fs := oX2 a S) (ci := 1) rfl rfl 1 (by decide) hlink rfl rfl rfl (by simp [oX2]) (S1 := sF S 6 x) rfl hd k
theorem gtX_X1_slack (C : CX D [(cA, .int)] p s m args meth c A cc nL own ret) {index : Nat} (hlink : Cond.fieldLink own index "LineDealer$Dealing" "slack" "I" ∈ tbG) (hd : decode cc pc = .ok (.getfield index, 3)) (k : RU D (wX a cA) p l e d s m args below meth c A nL Qf X (pc+3) (.int (S.1 7) :: st) lv S) : RU D (wX a cA) p l e d s m args below meth c A nL Qf X (pc) (.ref (a 2) :: st) lv S := R_get C inX1 2 (b := a 2) (fs := oX2 a S) (ci := 1) rfl rfl 2 (by decide) hlink rfl rfl hd k
theorem ptX_X1_slack (C : CX D [(cA, .int)] p s m args meth c A cc nL own ret) {index : Nat} {x : Int32} (hlink : Cond.fieldLink own index "LineDealer$Dealing" "slack" "I" ∈ tbG) (hd : decode cc pc = .ok (.putfield index, 3)) (k : RU D (wX a cA) p l e d s m args below meth c A nL Qf X (pc+3) (st) lv (sF S 7 x)) : RU D (wX a cA) p l e d s m args below meth c A nL Qf X (pc) (.int x :: .ref (a 2) :: st) lv S := R_put C inX1 tyX1 tyX1_ok nmX1 2 (b := a 2) (fs := oX2 a S) (ci := 1) rfl rfl 2 (by decide) hlink rfl rfl rfl (by simp [oX2]) (S1 := sF S 7 x) rfl hd k
theorem gtX_X1_lean (C : CX D [(cA, .int)] p s m args meth c A cc nL own ret) {index : Nat} (hlink : Cond.fieldLink own index "LineDealer$Dealing" "lean" "I" ∈ tbG) (hd : decode cc pc = .ok (.getfield index, 3)) (k : RU D (wX a cA) p l e d s m args below meth c A nL Qf X (pc+3) (.int (S.1 8) :: st) lv S) : RU D (wX a cA) p l e d s m args below meth c A nL Qf X (pc) (.ref (a 2) :: st) lv S := R_get C inX1 2 (b := a 2) (fs := oX2 a S) (ci := 1) rfl rfl 3 (by decide) hlink rfl rfl hd k
theorem ptX_X1_lean (C : CX D [(cA, .int)] p s m args meth c A cc nL own ret) {index : Nat} {x : Int32} (hlink : Cond.fieldLink own index "LineDealer$Dealing" "lean" "I" ∈ tbG) (hd : decode cc pc = .ok (.putfield index, 3)) (k : RU D (wX a cA) p l e d s m args below meth c A nL Qf X (pc+3) (st) lv (sF S 8 x)) : RU D (wX a cA) p l e d s m args below meth c A nL Qf X (pc) (.int x :: .ref (a 2) :: st) lv S := R_put C inX1 tyX1 tyX1_ok nmX1 2 (b := a 2) (fs := oX2 a S) (ci := 1) rfl rfl 3 (by decide) hlink rfl rfl rfl (by simp [oX2]) (S1 := sF S 8 x) rfl hd k
theorem gtX_X3_net (C : CX D [(cA, .int)] p s m args meth c A cc nL own ret) {index : Nat} (hlink : Cond.fieldLink own index "LineDealer$MoveSearch" "net" "LLineDealer$Net;" ∈ tbG) (hd : decode cc pc = .ok (.getfield index, 3)) (k : RU D (wX a cA) p l e d s m args below meth c A nL Qf X (pc+3) (.ref (a 1) :: st) lv S) : RU D (wX a cA) p l e d s m args below meth c A nL Qf X (pc) (.ref (a 3) :: st) lv S := R_get C inX3 3 (b := a 3) (fs := oX3 a S) (ci := 3) rfl rfl 0 (by decide) hlink rfl rfl hd k
theorem gtX_X3_chosenLine (C : CX D [(cA, .int)] p s m args meth c A cc nL own ret) {index : Nat} (hlink : Cond.fieldLink own index "LineDealer$MoveSearch" "chosenLine" "I" ∈ tbG) (hd : decode cc pc = .ok (.getfield index, 3)) (k : RU D (wX a cA) p l e d s m args below meth c A nL Qf X (pc+3) (.int (S.1 9) :: st) lv S) : RU D (wX a cA) p l e d s m args below meth c A nL Qf X (pc) (.ref (a 3) :: st) lv S := R_get C inX3 3 (b := a 3) (fs := oX3 a S) (ci := 3) rfl rfl 1 (by decide) hlink rfl rfl hd k
theorem ptX_X3_chosenLine (C : CX D [(cA, .int)] p s m args meth c A cc nL own ret) {index : Nat} {x : Int32} (hlink : Cond.fieldLink own index "LineDealer$MoveSearch" "chosenLine" "I" ∈ tbG) (hd : decode cc pc = .ok (.putfield index, 3)) (k : RU D (wX a cA) p l e d s m args below meth c A nL Qf X (pc+3) (st) lv (sF S 9 x)) : RU D (wX a cA) p l e d s m args below meth c A nL Qf X (pc) (.int x :: .ref (a 3) :: st) lv S := R_put C inX3 tyX3 tyX3_ok nmX3 3 (b := a 3) (fs := oX3 a S) (ci := 3) rfl rfl 1 (by decide) hlink rfl rfl rfl (by simp [oX3]) (S1 := sF S 9 x) rfl hd k
theorem gtX_X3_chosenHost (C : CX D [(cA, .int)] p s m args meth c A cc nL own ret) {index : Nat} (hlink : Cond.fieldLink own index "LineDealer$MoveSearch" "chosenHost" "I" ∈ tbG) (hd : decode cc pc = .ok (.getfield index, 3)) (k : RU D (wX a cA) p l e d s m args below meth c A nL Qf X (pc+3) (.int (S.1 10) :: st) lv S) : RU D (wX a cA) p l e d s m args below meth c A nL Qf X (pc) (.ref (a 3) :: st) lv S := R_get C inX3 3 (b := a 3) (fs := oX3 a S) (ci := 3) rfl rfl 2 (by decide) hlink rfl rfl hd k
theorem ptX_X3_chosenHost (C : CX D [(cA, .int)] p s m args meth c A cc nL own ret) {index : Nat} {x : Int32} (hlink : Cond.fieldLink own index "LineDealer$MoveSearch" "chosenHost" "I" ∈ tbG) (hd : decode cc pc = .ok (.putfield index, 3)) (k : RU D (wX a cA) p l e d s m args below meth c A nL Qf X (pc+3) (st) lv (sF S 10 x)) : RU D (wX a cA) p l e d s m args below meth c A nL Qf X (pc) (.int x :: .ref (a 3) :: st) lv S := R_put C inX3 tyX3 tyX3_ok nmX3 3 (b := a 3) (fs := oX3 a S) (ci := 3) rfl rfl 2 (by decide) hlink rfl rfl rfl (by simp [oX3]) (S1 := sF S 10 x) rfl hd k
theorem gtX_X3_copiesChange (C : CX D [(cA, .int)] p s m args meth c A cc nL own ret) {index : Nat} (hlink : Cond.fieldLink own index "LineDealer$MoveSearch" "copiesChange" "I" ∈ tbG) (hd : decode cc pc = .ok (.getfield index, 3)) (k : RU D (wX a cA) p l e d s m args below meth c A nL Qf X (pc+3) (.int (S.1 11) :: st) lv S) : RU D (wX a cA) p l e d s m args below meth c A nL Qf X (pc) (.ref (a 3) :: st) lv S := R_get C inX3 3 (b := a 3) (fs := oX3 a S) (ci := 3) rfl rfl 3 (by decide) hlink rfl rfl hd k
theorem ptX_X3_copiesChange (C : CX D [(cA, .int)] p s m args meth c A cc nL own ret) {index : Nat} {x : Int32} (hlink : Cond.fieldLink own index "LineDealer$MoveSearch" "copiesChange" "I" ∈ tbG) (hd : decode cc pc = .ok (.putfield index, 3)) (k : RU D (wX a cA) p l e d s m args below meth c A nL Qf X (pc+3) (st) lv (sF S 11 x)) : RU D (wX a cA) p l e d s m args below meth c A nL Qf X (pc) (.int x :: .ref (a 3) :: st) lv S := R_put C inX3 tyX3 tyX3_ok nmX3 3 (b := a 3) (fs := oX3 a S) (ci := 3) rfl rfl 3 (by decide) hlink rfl rfl rfl (by simp [oX3]) (S1 := sF S 11 x) rfl hd k
theorem gtX_X3_squaresChange (C : CX D [(cA, .int)] p s m args meth c A cc nL own ret) {index : Nat} (hlink : Cond.fieldLink own index "LineDealer$MoveSearch" "squaresChange" "I" ∈ tbG) (hd : decode cc pc = .ok (.getfield index, 3)) (k : RU D (wX a cA) p l e d s m args below meth c A nL Qf X (pc+3) (.int (S.1 12) :: st) lv S) : RU D (wX a cA) p l e d s m args below meth c A nL Qf X (pc) (.ref (a 3) :: st) lv S := R_get C inX3 3 (b := a 3) (fs := oX3 a S) (ci := 3) rfl rfl 4 (by decide) hlink rfl rfl hd k
theorem ptX_X3_squaresChange (C : CX D [(cA, .int)] p s m args meth c A cc nL own ret) {index : Nat} {x : Int32} (hlink : Cond.fieldLink own index "LineDealer$MoveSearch" "squaresChange" "I" ∈ tbG) (hd : decode cc pc = .ok (.putfield index, 3)) (k : RU D (wX a cA) p l e d s m args below meth c A nL Qf X (pc+3) (st) lv (sF S 12 x)) : RU D (wX a cA) p l e d s m args below meth c A nL Qf X (pc) (.int x :: .ref (a 3) :: st) lv S := R_put C inX3 tyX3 tyX3_ok nmX3 3 (b := a 3) (fs := oX3 a S) (ci := 3) rfl rfl 4 (by decide) hlink rfl rfl rfl (by simp [oX3]) (S1 := sF S 12 x) rfl hd k
theorem gtX_X0_net (C : CX D [(cA, .int)] p s m args meth c A cc nL own ret) {index : Nat} (hlink : Cond.fieldLink own index "LineDealer$BestSearch" "net" "LLineDealer$Net;" ∈ tbG) (hd : decode cc pc = .ok (.getfield index, 3)) (k : RU D (wX a cA) p l e d s m args below meth c A nL Qf X (pc+3) (.ref (a 1) :: st) lv S) : RU D (wX a cA) p l e d s m args below meth c A nL Qf X (pc) (.ref (a 4) :: st) lv S := R_get C inX0 4 (b := a 4) (fs := oX4 a S) (ci := 0) rfl rfl 0 (by decide) hlink rfl rfl hd k
theorem gtX_X0_lines (C : CX D [(cA, .int)] p s m args meth c A cc nL own ret) {index : Nat} (hlink : Cond.fieldLink own index "LineDealer$BestSearch" "lines" "[I" ∈ tbG) (hd : decode cc pc = .ok (.getfield index, 3)) (k : RU D (wX a cA) p l e d s m args below meth c A nL Qf X (pc+3) (.ref (a 15) :: st) lv S) : RU D (wX a cA) p l e d s m args below meth c A nL Qf X (pc) (.ref (a 4) :: st) lv S := R_get C inX0 4 (b := a 4) (fs := oX4 a S) (ci := 0) rfl rfl 1 (by decide) hlink rfl rfl hd k
theorem gtX_X0_tryLoads (C : CX D [(cA, .int)] p s m args meth c A cc nL own ret) {index : Nat} (hlink : Cond.fieldLink own index "LineDealer$BestSearch" "tryLoads" "[I" ∈ tbG) (hd : decode cc pc = .ok (.getfield index, 3)) (k : RU D (wX a cA) p l e d s m args below meth c A nL Qf X (pc+3) (.ref (a 16) :: st) lv S) : RU D (wX a cA) p l e d s m args below meth c A nL Qf X (pc) (.ref (a 4) :: st) lv S := R_get C inX0 4 (b := a 4) (fs := oX4 a S) (ci := 0) rfl rfl 2 (by decide) hlink rfl rfl hd k
theorem gtX_X0_tryBits (C : CX D [(cA, .int)] p s m args meth c A cc nL own ret) {index : Nat} (hlink : Cond.fieldLink own index "LineDealer$BestSearch" "tryBits" "[I" ∈ tbG) (hd : decode cc pc = .ok (.getfield index, 3)) (k : RU D (wX a cA) p l e d s m args below meth c A nL Qf X (pc+3) (.ref (a 17) :: st) lv S) : RU D (wX a cA) p l e d s m args below meth c A nL Qf X (pc) (.ref (a 4) :: st) lv S := R_get C inX0 4 (b := a 4) (fs := oX4 a S) (ci := 0) rfl rfl 3 (by decide) hlink rfl rfl hd k
theorem gtX_X0_size (C : CX D [(cA, .int)] p s m args meth c A cc nL own ret) {index : Nat} (hlink : Cond.fieldLink own index "LineDealer$BestSearch" "size" "I" ∈ tbG) (hd : decode cc pc = .ok (.getfield index, 3)) (k : RU D (wX a cA) p l e d s m args below meth c A nL Qf X (pc+3) (.int (S.1 13) :: st) lv S) : RU D (wX a cA) p l e d s m args below meth c A nL Qf X (pc) (.ref (a 4) :: st) lv S := R_get C inX0 4 (b := a 4) (fs := oX4 a S) (ci := 0) rfl rfl 4 (by decide) hlink rfl rfl hd k
theorem ptX_X0_size (C : CX D [(cA, .int)] p s m args meth c A cc nL own ret) {index : Nat} {x : Int32} (hlink : Cond.fieldLink own index "LineDealer$BestSearch" "size" "I" ∈ tbG) (hd : decode cc pc = .ok (.putfield index, 3)) (k : RU D (wX a cA) p l e d s m args below meth c A nL Qf X (pc+3) (st) lv (sF S 13 x)) : RU D (wX a cA) p l e d s m args below meth c A nL Qf X (pc) (.int x :: .ref (a 4) :: st) lv S := R_put C inX0 tyX0 tyX0_ok nmX0 4 (b := a 4) (fs := oX4 a S) (ci := 0) rfl rfl 4 (by decide) hlink rfl rfl rfl (by simp [oX4]) (S1 := sF S 13 x) rfl hd k
theorem gtX_X0_limit (C : CX D [(cA, .int)] p s m args meth c A cc nL own ret) {index : Nat} (hlink : Cond.fieldLink own index "LineDealer$BestSearch" "limit" "I" ∈ tbG) (hd : decode cc pc = .ok (.getfield index, 3)) (k : RU D (wX a cA) p l e d s m args below meth c A nL Qf X (pc+3) (.int (S.1 14) :: st) lv S) : RU D (wX a cA) p l e d s m args below meth c A nL Qf X (pc) (.ref (a 4) :: st) lv S := R_get C inX0 4 (b := a 4) (fs := oX4 a S) (ci := 0) rfl rfl 5 (by decide) hlink rfl rfl hd k
theorem ptX_X0_limit (C : CX D [(cA, .int)] p s m args meth c A cc nL own ret) {index : Nat} {x : Int32} (hlink : Cond.fieldLink own index "LineDealer$BestSearch" "limit" "I" ∈ tbG) (hd : decode cc pc = .ok (.putfield index, 3)) (k : RU D (wX a cA) p l e d s m args below meth c A nL Qf X (pc+3) (st) lv (sF S 14 x)) : RU D (wX a cA) p l e d s m args below meth c A nL Qf X (pc) (.int x :: .ref (a 4) :: st) lv S := R_put C inX0 tyX0 tyX0_ok nmX0 4 (b := a 4) (fs := oX4 a S) (ci := 0) rfl rfl 5 (by decide) hlink rfl rfl rfl (by simp [oX4]) (S1 := sF S 14 x) rfl hd k
theorem gtX_X0_fewest (C : CX D [(cA, .int)] p s m args meth c A cc nL own ret) {index : Nat} (hlink : Cond.fieldLink own index "LineDealer$BestSearch" "fewest" "I" ∈ tbG) (hd : decode cc pc = .ok (.getfield index, 3)) (k : RU D (wX a cA) p l e d s m args below meth c A nL Qf X (pc+3) (.int (S.1 15) :: st) lv S) : RU D (wX a cA) p l e d s m args below meth c A nL Qf X (pc) (.ref (a 4) :: st) lv S := R_get C inX0 4 (b := a 4) (fs := oX4 a S) (ci := 0) rfl rfl 6 (by decide) hlink rfl rfl hd k
theorem ptX_X0_fewest (C : CX D [(cA, .int)] p s m args meth c A cc nL own ret) {index : Nat} {x : Int32} (hlink : Cond.fieldLink own index "LineDealer$BestSearch" "fewest" "I" ∈ tbG) (hd : decode cc pc = .ok (.putfield index, 3)) (k : RU D (wX a cA) p l e d s m args below meth c A nL Qf X (pc+3) (st) lv (sF S 15 x)) : RU D (wX a cA) p l e d s m args below meth c A nL Qf X (pc) (.int x :: .ref (a 4) :: st) lv S := R_put C inX0 tyX0 tyX0_ok nmX0 4 (b := a 4) (fs := oX4 a S) (ci := 0) rfl rfl 6 (by decide) hlink rfl rfl rfl (by simp [oX4]) (S1 := sF S 15 x) rfl hd k
theorem gtX_X5_net (C : CX D [(cA, .int)] p s m args meth c A cc nL own ret) {index : Nat} (hlink : Cond.fieldLink own index "LineDealer$Spreading" "net" "LLineDealer$Net;" ∈ tbG) (hd : decode cc pc = .ok (.getfield index, 3)) (k : RU D (wX a cA) p l e d s m args below meth c A nL Qf X (pc+3) (.ref (a 1) :: st) lv S) : RU D (wX a cA) p l e d s m args below meth c A nL Qf X (pc) (.ref (a 5) :: st) lv S := R_get C inX5 5 (b := a 5) (fs := oX5 a S) (ci := 5) rfl rfl 0 (by decide) hlink rfl rfl hd k
theorem gtX_X5_values (C : CX D [(cA, .int)] p s m args meth c A cc nL own ret) {index : Nat} (hlink : Cond.fieldLink own index "LineDealer$Spreading" "values" "[I" ∈ tbG) (hd : decode cc pc = .ok (.getfield index, 3)) (k : RU D (wX a cA) p l e d s m args below meth c A nL Qf X (pc+3) (.ref (a 18) :: st) lv S) : RU D (wX a cA) p l e d s m args below meth c A nL Qf X (pc) (.ref (a 5) :: st) lv S := R_get C inX5 5 (b := a 5) (fs := oX5 a S) (ci := 5) rfl rfl 1 (by decide) hlink rfl rfl hd k
theorem gtX_X5_before (C : CX D [(cA, .int)] p s m args meth c A cc nL own ret) {index : Nat} (hlink : Cond.fieldLink own index "LineDealer$Spreading" "before" "[I" ∈ tbG) (hd : decode cc pc = .ok (.getfield index, 3)) (k : RU D (wX a cA) p l e d s m args below meth c A nL Qf X (pc+3) (.ref (a 19) :: st) lv S) : RU D (wX a cA) p l e d s m args below meth c A nL Qf X (pc) (.ref (a 5) :: st) lv S := R_get C inX5 5 (b := a 5) (fs := oX5 a S) (ci := 5) rfl rfl 2 (by decide) hlink rfl rfl hd k
theorem gtX_X5_rounds (C : CX D [(cA, .int)] p s m args meth c A cc nL own ret) {index : Nat} (hlink : Cond.fieldLink own index "LineDealer$Spreading" "rounds" "I" ∈ tbG) (hd : decode cc pc = .ok (.getfield index, 3)) (k : RU D (wX a cA) p l e d s m args below meth c A nL Qf X (pc+3) (.int (S.1 16) :: st) lv S) : RU D (wX a cA) p l e d s m args below meth c A nL Qf X (pc) (.ref (a 5) :: st) lv S := R_get C inX5 5 (b := a 5) (fs := oX5 a S) (ci := 5) rfl rfl 3 (by decide) hlink rfl rfl hd k
theorem ptX_X5_rounds (C : CX D [(cA, .int)] p s m args meth c A cc nL own ret) {index : Nat} {x : Int32} (hlink : Cond.fieldLink own index "LineDealer$Spreading" "rounds" "I" ∈ tbG) (hd : decode cc pc = .ok (.putfield index, 3)) (k : RU D (wX a cA) p l e d s m args below meth c A nL Qf X (pc+3) (st) lv (sF S 16 x)) : RU D (wX a cA) p l e d s m args below meth c A nL Qf X (pc) (.int x :: .ref (a 5) :: st) lv S := R_put C inX5 tyX5 tyX5_ok nmX5 5 (b := a 5) (fs := oX5 a S) (ci := 5) rfl rfl 3 (by decide) hlink rfl rfl rfl (by simp [oX5]) (S1 := sF S 16 x) rfl hd k
theorem gtX_X2_net (C : CX D [(cA, .int)] p s m args meth c A cc nL own ret) {index : Nat} (hlink : Cond.fieldLink own index "LineDealer$Mastering" "net" "LLineDealer$Net;" ∈ tbG) (hd : decode cc pc = .ok (.getfield index, 3)) (k : RU D (wX a cA) p l e d s m args below meth c A nL Qf X (pc+3) (.ref (a 1) :: st) lv S) : RU D (wX a cA) p l e d s m args below meth c A nL Qf X (pc) (.ref (a 6) :: st) lv S := R_get C inX2 6 (b := a 6) (fs := oX6 a S) (ci := 2) rfl rfl 0 (by decide) hlink rfl rfl hd k
theorem gtX_X2_mastered (C : CX D [(cA, .int)] p s m args meth c A cc nL own ret) {index : Nat} (hlink : Cond.fieldLink own index "LineDealer$Mastering" "mastered" "[I" ∈ tbG) (hd : decode cc pc = .ok (.getfield index, 3)) (k : RU D (wX a cA) p l e d s m args below meth c A nL Qf X (pc+3) (.ref (a 20) :: st) lv S) : RU D (wX a cA) p l e d s m args below meth c A nL Qf X (pc) (.ref (a 6) :: st) lv S := R_get C inX2 6 (b := a 6) (fs := oX6 a S) (ci := 2) rfl rfl 1 (by decide) hlink rfl rfl hd k
theorem ldX0 (C : CX D [(cA, .int)] p s m args meth c A cc nL own ret) {i : Int32} (hd : decode cc pc = .ok (.iaload, 1)) (k : RU D (wX a cA) p l e d s m args below meth c A nL Qf X (pc+1) (.int (S.2 0 (ix i)) :: st) lv S) : RU D (wX a cA) p l e d s m args below meth c A nL Qf (gA (inb i 300) X) (pc) (.int i :: .ref (a 7) :: st) lv S := R_iald C 7 0 rfl rfl hd k
theorem svX0 (C : CX D [(cA, .int)] p s m args meth c A cc nL own ret) {i x : Int32} (hd : decode cc pc = .ok (.iastore, 1)) (k : RU D (wX a cA) p l e d s m args below meth c A nL Qf X (pc+1) (st) lv (sA S 0 (ix i) x)) : RU D (wX a cA) p l e d s m args below meth c A nL Qf (gA (inb i 300) X) (pc) (.int x :: .int i :: .ref (a 7) :: st) lv S := R_iast C 7 0 rfl rfl rfl hd k
theorem lnX0 (C : CX D [(cA, .int)] p s m args meth c A cc nL own ret) (hd : decode cc pc = .ok (.arraylength, 1)) (k : RU D (wX a cA) p l e d s m args below meth c A nL Qf X (pc+1) (.int 300 :: st) lv S) : RU D (wX a cA) p l e d s m args below meth c A nL Qf X (pc) (.ref (a 7) :: st) lv S := R_alen C 7 0 rfl rfl rfl hd k
theorem ldX1 (C : CX D [(cA, .int)] p s m args meth c A cc nL own ret) {i : Int32} (hd : decode cc pc = .ok (.iaload, 1)) (k : RU D (wX a cA) p l e d s m args below meth c A nL Qf X (pc+1) (.int (S.2 1 (ix i)) :: st) lv S) : RU D (wX a cA) p l e d s m args below meth c A nL Qf (gA (inb i 300) X) (pc) (.int i :: .ref (a 8) :: st) lv S := R_iald C 8 0 rfl rfl hd k
theorem svX1 (C : CX D [(cA, .int)] p s m args meth c A cc nL own ret) {i x : Int32} (hd : decode cc pc = .ok (.iastore, 1)) (k : RU D (wX a cA) p l e d s m args below meth c A nL Qf X (pc+1) (st) lv (sA S 1 (ix i) x)) : RU D (wX a cA) p l e d s m args below meth c A nL Qf (gA (inb i 300) X) (pc) (.int x :: .int i :: .ref (a 8) :: st) lv S := R_iast C 8 0 rfl rfl rfl hd k
theorem lnX1 (C : CX D [(cA, .int)] p s m args meth c A cc nL own ret) (hd : decode cc pc = .ok (.arraylength, 1)) (k : RU D (wX a cA) p l e d s m args below meth c A nL Qf X (pc+1) (.int 300 :: st) lv S) : RU D (wX a cA) p l e d s m args below meth c A nL Qf X (pc) (.ref (a 8) :: st) lv S := R_alen C 8 0 rfl rfl rfl hd k
theorem ldX2 (C : CX D [(cA, .int)] p s m args meth c A cc nL own ret) {i : Int32} (hd : decode cc pc = .ok (.iaload, 1)) (k : RU D (wX a cA) p l e d s m args below meth c A nL Qf X (pc+1) (.int (S.2 2 (ix i)) :: st) lv S) : RU D (wX a cA) p l e d s m args below meth c A nL Qf (gA (inb i 300) X) (pc) (.int i :: .ref (a 9) :: st) lv S := R_iald C 9 0 rfl rfl hd k
theorem svX2 (C : CX D [(cA, .int)] p s m args meth c A cc nL own ret) {i x : Int32} (hd : decode cc pc = .ok (.iastore, 1)) (k : RU D (wX a cA) p l e d s m args below meth c A nL Qf X (pc+1) (st) lv (sA S 2 (ix i) x)) : RU D (wX a cA) p l e d s m args below meth c A nL Qf (gA (inb i 300) X) (pc) (.int x :: .int i :: .ref (a 9) :: st) lv S := R_iast C 9 0 rfl rfl rfl hd k
theorem lnX2 (C : CX D [(cA, .int)] p s m args meth c A cc nL own ret) (hd : decode cc pc = .ok (.arraylength, 1)) (k : RU D (wX a cA) p l e d s m args below meth c A nL Qf X (pc+1) (.int 300 :: st) lv S) : RU D (wX a cA) p l e d s m args below meth c A nL Qf X (pc) (.ref (a 9) :: st) lv S := R_alen C 9 0 rfl rfl rfl hd k
theorem ldX3 (C : CX D [(cA, .int)] p s m args meth c A cc nL own ret) {i : Int32} (hd : decode cc pc = .ok (.iaload, 1)) (k : RU D (wX a cA) p l e d s m args below meth c A nL Qf X (pc+1) (.int (S.2 3 (ix i)) :: st) lv S) : RU D (wX a cA) p l e d s m args below meth c A nL Qf (gA (inb i 300) X) (pc) (.int i :: .ref (a 10) :: st) lv S := R_iald C 10 0 rfl rfl hd k
theorem svX3 (C : CX D [(cA, .int)] p s m args meth c A cc nL own ret) {i x : Int32} (hd : decode cc pc = .ok (.iastore, 1)) (k : RU D (wX a cA) p l e d s m args below meth c A nL Qf X (pc+1) (st) lv (sA S 3 (ix i) x)) : RU D (wX a cA) p l e d s m args below meth c A nL Qf (gA (inb i 300) X) (pc) (.int x :: .int i :: .ref (a 10) :: st) lv S := R_iast C 10 0 rfl rfl rfl hd k
theorem lnX3 (C : CX D [(cA, .int)] p s m args meth c A cc nL own ret) (hd : decode cc pc = .ok (.arraylength, 1)) (k : RU D (wX a cA) p l e d s m args below meth c A nL Qf X (pc+1) (.int 300 :: st) lv S) : RU D (wX a cA) p l e d s m args below meth c A nL Qf X (pc) (.ref (a 10) :: st) lv S := R_alen C 10 0 rfl rfl rfl hd k
theorem ldX4 (C : CX D [(cA, .int)] p s m args meth c A cc nL own ret) {i : Int32} (hd : decode cc pc = .ok (.iaload, 1)) (k : RU D (wX a cA) p l e d s m args below meth c A nL Qf X (pc+1) (.int (S.2 4 (ix i)) :: st) lv S) : RU D (wX a cA) p l e d s m args below meth c A nL Qf (gA (inb i 8) X) (pc) (.int i :: .ref (a 11) :: st) lv S := R_iald C 11 0 rfl rfl hd k
theorem svX4 (C : CX D [(cA, .int)] p s m args meth c A cc nL own ret) {i x : Int32} (hd : decode cc pc = .ok (.iastore, 1)) (k : RU D (wX a cA) p l e d s m args below meth c A nL Qf X (pc+1) (st) lv (sA S 4 (ix i) x)) : RU D (wX a cA) p l e d s m args below meth c A nL Qf (gA (inb i 8) X) (pc) (.int x :: .int i :: .ref (a 11) :: st) lv S := R_iast C 11 0 rfl rfl rfl hd k
theorem lnX4 (C : CX D [(cA, .int)] p s m args meth c A cc nL own ret) (hd : decode cc pc = .ok (.arraylength, 1)) (k : RU D (wX a cA) p l e d s m args below meth c A nL Qf X (pc+1) (.int 8 :: st) lv S) : RU D (wX a cA) p l e d s m args below meth c A nL Qf X (pc) (.ref (a 11) :: st) lv S := R_alen C 11 0 rfl rfl rfl hd k
theorem ldX5 (C : CX D [(cA, .int)] p s m args meth c A cc nL own ret) {i : Int32} (hd : decode cc pc = .ok (.iaload, 1)) (k : RU D (wX a cA) p l e d s m args below meth c A nL Qf X (pc+1) (.int (S.2 5 (ix i)) :: st) lv S) : RU D (wX a cA) p l e d s m args below meth c A nL Qf (gA (inb i 40) X) (pc) (.int i :: .ref (a 12) :: st) lv S := R_iald C 12 0 rfl rfl hd k
theorem svX5 (C : CX D [(cA, .int)] p s m args meth c A cc nL own ret) {i x : Int32} (hd : decode cc pc = .ok (.iastore, 1)) (k : RU D (wX a cA) p l e d s m args below meth c A nL Qf X (pc+1) (st) lv (sA S 5 (ix i) x)) : RU D (wX a cA) p l e d s m args below meth c A nL Qf (gA (inb i 40) X) (pc) (.int x :: .int i :: .ref (a 12) :: st) lv S := R_iast C 12 0 rfl rfl rfl hd k
theorem lnX5 (C : CX D [(cA, .int)] p s m args meth c A cc nL own ret) (hd : decode cc pc = .ok (.arraylength, 1)) (k : RU D (wX a cA) p l e d s m args below meth c A nL Qf X (pc+1) (.int 40 :: st) lv S) : RU D (wX a cA) p l e d s m args below meth c A nL Qf X (pc) (.ref (a 12) :: st) lv S := R_alen C 12 0 rfl rfl rfl hd k
theorem ldX6 (C : CX D [(cA, .int)] p s m args meth c A cc nL own ret) {i : Int32} (hd : decode cc pc = .ok (.iaload, 1)) (k : RU D (wX a cA) p l e d s m args below meth c A nL Qf X (pc+1) (.int (S.2 6 (ix i)) :: st) lv S) : RU D (wX a cA) p l e d s m args below meth c A nL Qf (gA (inb i 40) X) (pc) (.int i :: .ref (a 13) :: st) lv S := R_iald C 13 0 rfl rfl hd k
theorem svX6 (C : CX D [(cA, .int)] p s m args meth c A cc nL own ret) {i x : Int32} (hd : decode cc pc = .ok (.iastore, 1)) (k : RU D (wX a cA) p l e d s m args below meth c A nL Qf X (pc+1) (st) lv (sA S 6 (ix i) x)) : RU D (wX a cA) p l e d s m args below meth c A nL Qf (gA (inb i 40) X) (pc) (.int x :: .int i :: .ref (a 13) :: st) lv S := R_iast C 13 0 rfl rfl rfl hd k
theorem lnX6 (C : CX D [(cA, .int)] p s m args meth c A cc nL own ret) (hd : decode cc pc = .ok (.arraylength, 1)) (k : RU D (wX a cA) p l e d s m args below meth c A nL Qf X (pc+1) (.int 40 :: st) lv S) : RU D (wX a cA) p l e d s m args below meth c A nL Qf X (pc) (.ref (a 13) :: st) lv S := R_alen C 13 0 rfl rfl rfl hd k
theorem ldX7 (C : CX D [(cA, .int)] p s m args meth c A cc nL own ret) {i : Int32} (hd : decode cc pc = .ok (.iaload, 1)) (k : RU D (wX a cA) p l e d s m args below meth c A nL Qf X (pc+1) (.int (S.2 7 (ix i)) :: st) lv S) : RU D (wX a cA) p l e d s m args below meth c A nL Qf (gA (inb i 320) X) (pc) (.int i :: .ref (a 14) :: st) lv S := R_iald C 14 0 rfl rfl hd k
theorem svX7 (C : CX D [(cA, .int)] p s m args meth c A cc nL own ret) {i x : Int32} (hd : decode cc pc = .ok (.iastore, 1)) (k : RU D (wX a cA) p l e d s m args below meth c A nL Qf X (pc+1) (st) lv (sA S 7 (ix i) x)) : RU D (wX a cA) p l e d s m args below meth c A nL Qf (gA (inb i 320) X) (pc) (.int x :: .int i :: .ref (a 14) :: st) lv S := R_iast C 14 0 rfl rfl rfl hd k
theorem lnX7 (C : CX D [(cA, .int)] p s m args meth c A cc nL own ret) (hd : decode cc pc = .ok (.arraylength, 1)) (k : RU D (wX a cA) p l e d s m args below meth c A nL Qf X (pc+1) (.int 320 :: st) lv S) : RU D (wX a cA) p l e d s m args below meth c A nL Qf X (pc) (.ref (a 14) :: st) lv S := R_alen C 14 0 rfl rfl rfl hd k
theorem ldX8 (C : CX D [(cA, .int)] p s m args meth c A cc nL own ret) {i : Int32} (hd : decode cc pc = .ok (.iaload, 1)) (k : RU D (wX a cA) p l e d s m args below meth c A nL Qf X (pc+1) (.int (S.2 8 (ix i)) :: st) lv S) : RU D (wX a cA) p l e d s m args below meth c A nL Qf (gA (inb i 8) X) (pc) (.int i :: .ref (a 15) :: st) lv S := R_iald C 15 0 rfl rfl hd k
theorem svX8 (C : CX D [(cA, .int)] p s m args meth c A cc nL own ret) {i x : Int32} (hd : decode cc pc = .ok (.iastore, 1)) (k : RU D (wX a cA) p l e d s m args below meth c A nL Qf X (pc+1) (st) lv (sA S 8 (ix i) x)) : RU D (wX a cA) p l e d s m args below meth c A nL Qf (gA (inb i 8) X) (pc) (.int x :: .int i :: .ref (a 15) :: st) lv S := R_iast C 15 0 rfl rfl rfl hd k
theorem lnX8 (C : CX D [(cA, .int)] p s m args meth c A cc nL own ret) (hd : decode cc pc = .ok (.arraylength, 1)) (k : RU D (wX a cA) p l e d s m args below meth c A nL Qf X (pc+1) (.int 8 :: st) lv S) : RU D (wX a cA) p l e d s m args below meth c A nL Qf X (pc) (.ref (a 15) :: st) lv S := R_alen C 15 0 rfl rfl rfl hd k
theorem ldX9 (C : CX D [(cA, .int)] p s m args meth c A cc nL own ret) {i : Int32} (hd : decode cc pc = .ok (.iaload, 1)) (k : RU D (wX a cA) p l e d s m args below meth c A nL Qf X (pc+1) (.int (S.2 9 (ix i)) :: st) lv S) : RU D (wX a cA) p l e d s m args below meth c A nL Qf (gA (inb i 3) X) (pc) (.int i :: .ref (a 16) :: st) lv S := R_iald C 16 0 rfl rfl hd k
theorem svX9 (C : CX D [(cA, .int)] p s m args meth c A cc nL own ret) {i x : Int32} (hd : decode cc pc = .ok (.iastore, 1)) (k : RU D (wX a cA) p l e d s m args below meth c A nL Qf X (pc+1) (st) lv (sA S 9 (ix i) x)) : RU D (wX a cA) p l e d s m args below meth c A nL Qf (gA (inb i 3) X) (pc) (.int x :: .int i :: .ref (a 16) :: st) lv S := R_iast C 16 0 rfl rfl rfl hd k
theorem lnX9 (C : CX D [(cA, .int)] p s m args meth c A cc nL own ret) (hd : decode cc pc = .ok (.arraylength, 1)) (k : RU D (wX a cA) p l e d s m args below meth c A nL Qf X (pc+1) (.int 3 :: st) lv S) : RU D (wX a cA) p l e d s m args below meth c A nL Qf X (pc) (.ref (a 16) :: st) lv S := R_alen C 16 0 rfl rfl rfl hd k
theorem ldX10 (C : CX D [(cA, .int)] p s m args meth c A cc nL own ret) {i : Int32} (hd : decode cc pc = .ok (.iaload, 1)) (k : RU D (wX a cA) p l e d s m args below meth c A nL Qf X (pc+1) (.int (S.2 10 (ix i)) :: st) lv S) : RU D (wX a cA) p l e d s m args below meth c A nL Qf (gA (inb i 40) X) (pc) (.int i :: .ref (a 17) :: st) lv S := R_iald C 17 0 rfl rfl hd k
theorem svX10 (C : CX D [(cA, .int)] p s m args meth c A cc nL own ret) {i x : Int32} (hd : decode cc pc = .ok (.iastore, 1)) (k : RU D (wX a cA) p l e d s m args below meth c A nL Qf X (pc+1) (st) lv (sA S 10 (ix i) x)) : RU D (wX a cA) p l e d s m args below meth c A nL Qf (gA (inb i 40) X) (pc) (.int x :: .int i :: .ref (a 17) :: st) lv S := R_iast C 17 0 rfl rfl rfl hd k
theorem lnX10 (C : CX D [(cA, .int)] p s m args meth c A cc nL own ret) (hd : decode cc pc = .ok (.arraylength, 1)) (k : RU D (wX a cA) p l e d s m args below meth c A nL Qf X (pc+1) (.int 40 :: st) lv S) : RU D (wX a cA) p l e d s m args below meth c A nL Qf X (pc) (.ref (a 17) :: st) lv S := R_alen C 17 0 rfl rfl rfl hd k
theorem ldX11 (C : CX D [(cA, .int)] p s m args meth c A cc nL own ret) {i : Int32} (hd : decode cc pc = .ok (.iaload, 1)) (k : RU D (wX a cA) p l e d s m args below meth c A nL Qf X (pc+1) (.int (S.2 11 (ix i)) :: st) lv S) : RU D (wX a cA) p l e d s m args below meth c A nL Qf (gA (inb i 40) X) (pc) (.int i :: .ref (a 18) :: st) lv S := R_iald C 18 0 rfl rfl hd k
theorem svX11 (C : CX D [(cA, .int)] p s m args meth c A cc nL own ret) {i x : Int32} (hd : decode cc pc = .ok (.iastore, 1)) (k : RU D (wX a cA) p l e d s m args below meth c A nL Qf X (pc+1) (st) lv (sA S 11 (ix i) x)) : RU D (wX a cA) p l e d s m args below meth c A nL Qf (gA (inb i 40) X) (pc) (.int x :: .int i :: .ref (a 18) :: st) lv S := R_iast C 18 0 rfl rfl rfl hd k
theorem lnX11 (C : CX D [(cA, .int)] p s m args meth c A cc nL own ret) (hd : decode cc pc = .ok (.arraylength, 1)) (k : RU D (wX a cA) p l e d s m args below meth c A nL Qf X (pc+1) (.int 40 :: st) lv S) : RU D (wX a cA) p l e d s m args below meth c A nL Qf X (pc) (.ref (a 18) :: st) lv S := R_alen C 18 0 rfl rfl rfl hd k
theorem ldX12 (C : CX D [(cA, .int)] p s m args meth c A cc nL own ret) {i : Int32} (hd : decode cc pc = .ok (.iaload, 1)) (k : RU D (wX a cA) p l e d s m args below meth c A nL Qf X (pc+1) (.int (S.2 12 (ix i)) :: st) lv S) : RU D (wX a cA) p l e d s m args below meth c A nL Qf (gA (inb i 40) X) (pc) (.int i :: .ref (a 19) :: st) lv S := R_iald C 19 0 rfl rfl hd k
theorem svX12 (C : CX D [(cA, .int)] p s m args meth c A cc nL own ret) {i x : Int32} (hd : decode cc pc = .ok (.iastore, 1)) (k : RU D (wX a cA) p l e d s m args below meth c A nL Qf X (pc+1) (st) lv (sA S 12 (ix i) x)) : RU D (wX a cA) p l e d s m args below meth c A nL Qf (gA (inb i 40) X) (pc) (.int x :: .int i :: .ref (a 19) :: st) lv S := R_iast C 19 0 rfl rfl rfl hd k
theorem lnX12 (C : CX D [(cA, .int)] p s m args meth c A cc nL own ret) (hd : decode cc pc = .ok (.arraylength, 1)) (k : RU D (wX a cA) p l e d s m args below meth c A nL Qf X (pc+1) (.int 40 :: st) lv S) : RU D (wX a cA) p l e d s m args below meth c A nL Qf X (pc) (.ref (a 19) :: st) lv S := R_alen C 19 0 rfl rfl rfl hd k
theorem ldX13 (C : CX D [(cA, .int)] p s m args meth c A cc nL own ret) {i : Int32} (hd : decode cc pc = .ok (.iaload, 1)) (k : RU D (wX a cA) p l e d s m args below meth c A nL Qf X (pc+1) (.int (S.2 13 (ix i)) :: st) lv S) : RU D (wX a cA) p l e d s m args below meth c A nL Qf (gA (inb i 8) X) (pc) (.int i :: .ref (a 20) :: st) lv S := R_iald C 20 0 rfl rfl hd k
theorem svX13 (C : CX D [(cA, .int)] p s m args meth c A cc nL own ret) {i x : Int32} (hd : decode cc pc = .ok (.iastore, 1)) (k : RU D (wX a cA) p l e d s m args below meth c A nL Qf X (pc+1) (st) lv (sA S 13 (ix i) x)) : RU D (wX a cA) p l e d s m args below meth c A nL Qf (gA (inb i 8) X) (pc) (.int x :: .int i :: .ref (a 20) :: st) lv S := R_iast C 20 0 rfl rfl rfl hd k
theorem lnX13 (C : CX D [(cA, .int)] p s m args meth c A cc nL own ret) (hd : decode cc pc = .ok (.arraylength, 1)) (k : RU D (wX a cA) p l e d s m args below meth c A nL Qf X (pc+1) (.int 8 :: st) lv S) : RU D (wX a cA) p l e d s m args below meth c A nL Qf X (pc) (.ref (a 20) :: st) lv S := R_alen C 20 0 rfl rfl rfl hd k
end WRX
def oM0 (a : Nat → Nat) (S : St) : List Value := [.int (S.1 0), .int (S.1 1), .ref (a 1), .ref (a 2), .ref (a 3), .ref (a 4), .ref (a 5), .int (S.1 2), .int (S.1 3), .int (S.1 4), .int (S.1 5), .int (S.1 6), .int (S.1 7), .ref (a 6), .ref (a 7), .ref (a 8), .ref (a 9), .ref (a 10), .ref (a 11)]
def wM (a : Nat → Nat) (cA cZ : ClassId) (S : St) : va_W := [(a 0, .inr (7, oM0 a S)), (a 1, .inl (cA, 300, .inl (S.2 0))), (a 2, .inl (cA, 300, .inl (S.2 1))), (a 3, .inl (cA, 300, .inl (S.2 2))), (a 4, .inl (cA, 8, .inl (S.2 3))), (a 5, .inl (cA, 320, .inl (S.2 4))), (a 6, .inl (cZ, 300, .inl (S.2 5))), (a 7, .inl (cA, 3, .inl (S.2 6))), (a 8, .inl (cA, 40, .inl (S.2 7))), (a 9, .inl (cA, 40, .inl (S.2 8))), (a 10, .inl (cA, 40, .inl (S.2 9))), (a 11, .inl (cA, 8, .inl (S.2 10)))]
set_option maxRecDepth 20000 in
theorem inX7 : ∀ w ∈ u_ws RX7 TX7 19, w ∈ tbG := wmu (by decide +kernel) (by decide +kernel)
section WRM
variable {D : va_G} {a : Nat → Nat} {cA cZ : ClassId} {p : Program} {l : Launch} {e : Env} {s : State} {m : MethodId} {args : Array Value} {below : List Frame} {meth : Method} {c : Code} {A : Nat → Prop}
variable {d : Nat} {cc : ByteArray} {nL : Nat} {own : String} {ret : Option FieldType} {Qf : Int32 → St → Array Value → State → Outcome → State → Prop} {X : Rs} {pc : Nat} {st : List Value} {lv : List (Nat × Value)} {S : St}
theorem gtM_X7_hosts (C : CX D [(cA, .int), (cZ, .boolean)] p s m args meth c A cc nL own ret) {index : Nat} (hlink : Cond.fieldLink own index "LineDealerModel" "hosts" "I" ∈ tbG) (hd : decode cc pc = .ok (.getfield index, 3)) (k : RU D (wM a cA cZ) p l e d s m args below meth c A nL Qf X (pc+3) (.int (S.1 0) :: st) lv S) : RU D (wM a cA cZ) p l e d s m args below meth c A nL Qf X (pc) (.ref (a 0) :: st) lv S := R_get C inX7 0 (b := a 0) (fs := oM0 a S) (ci := 7) rfl rfl 0 (by decide) hlink rfl rfl hd k
theorem ptM_X7_hosts (C : CX D [(cA, .int), (cZ, .boolean)] p s m args meth c A cc nL own ret) {index : Nat} {x : Int32} (hlink : Cond.fieldLink own index "LineDealerModel" "hosts" "I" ∈ tbG) (hd : decode cc pc = .ok (.putfield index, 3)) (k : RU D (wM a cA cZ) p l e d s m args below meth c A nL Qf X (pc+3) (st) lv (sF S 0 x)) : RU D (wM a cA cZ) p l e d s m args below meth c A nL Qf X (pc) (.int x :: .ref (a 0) :: st) lv S := R_put C inX7 tyX7 tyX7_ok nmX7 0 (b := a 0) (fs := oM0 a S) (ci := 7) rfl rfl 0 (by decide) hlink rfl rfl rfl (by simp [oM0]) (S1 := sF S 0 x) rfl hd k
theorem gtM_X7_lines (C : CX D [(cA, .int), (cZ, .boolean)] p s m args meth c A cc nL own ret) {index : Nat} (hlink : Cond.fieldLink own index "LineDealerModel" "lines" "I" ∈ tbG) (hd : decode cc pc = .ok (.getfield index, 3)) (k : RU D (wM a cA cZ) p l e d s m args below meth c A nL Qf X (pc+3) (.int (S.1 1) :: st) lv S) : RU D (wM a cA cZ) p l e d s m args below meth c A nL Qf X (pc) (.ref (a 0) :: st) lv S := R_get C inX7 0 (b := a 0) (fs := oM0 a S) (ci := 7) rfl rfl 1 (by decide) hlink rfl rfl hd k
theorem ptM_X7_lines (C : CX D [(cA, .int), (cZ, .boolean)] p s m args meth c A cc nL own ret) {index : Nat} {x : Int32} (hlink : Cond.fieldLink own index "LineDealerModel" "lines" "I" ∈ tbG) (hd : decode cc pc = .ok (.putfield index, 3)) (k : RU D (wM a cA cZ) p l e d s m args below meth c A nL Qf X (pc+3) (st) lv (sF S 1 x)) : RU D (wM a cA cZ) p l e d s m args below meth c A nL Qf X (pc) (.int x :: .ref (a 0) :: st) lv S := R_put C inX7 tyX7 tyX7_ok nmX7 0 (b := a 0) (fs := oM0 a S) (ci := 7) rfl rfl 1 (by decide) hlink rfl rfl rfl (by simp [oM0]) (S1 := sF S 1 x) rfl hd k
theorem gtM_X7_one (C : CX D [(cA, .int), (cZ, .boolean)] p s m args meth c A cc nL own ret) {index : Nat} (hlink : Cond.fieldLink own index "LineDealerModel" "one" "[I" ∈ tbG) (hd : decode cc pc = .ok (.getfield index, 3)) (k : RU D (wM a cA cZ) p l e d s m args below meth c A nL Qf X (pc+3) (.ref (a 1) :: st) lv S) : RU D (wM a cA cZ) p l e d s m args below meth c A nL Qf X (pc) (.ref (a 0) :: st) lv S := R_get C inX7 0 (b := a 0) (fs := oM0 a S) (ci := 7) rfl rfl 2 (by decide) hlink rfl rfl hd k
theorem gtM_X7_other (C : CX D [(cA, .int), (cZ, .boolean)] p s m args meth c A cc nL own ret) {index : Nat} (hlink : Cond.fieldLink own index "LineDealerModel" "other" "[I" ∈ tbG) (hd : decode cc pc = .ok (.getfield index, 3)) (k : RU D (wM a cA cZ) p l e d s m args below meth c A nL Qf X (pc+3) (.ref (a 2) :: st) lv S) : RU D (wM a cA cZ) p l e d s m args below meth c A nL Qf X (pc) (.ref (a 0) :: st) lv S := R_get C inX7 0 (b := a 0) (fs := oM0 a S) (ci := 7) rfl rfl 3 (by decide) hlink rfl rfl hd k
theorem gtM_X7_hostOf (C : CX D [(cA, .int), (cZ, .boolean)] p s m args meth c A cc nL own ret) {index : Nat} (hlink : Cond.fieldLink own index "LineDealerModel" "hostOf" "[I" ∈ tbG) (hd : decode cc pc = .ok (.getfield index, 3)) (k : RU D (wM a cA cZ) p l e d s m args below meth c A nL Qf X (pc+3) (.ref (a 3) :: st) lv S) : RU D (wM a cA cZ) p l e d s m args below meth c A nL Qf X (pc) (.ref (a 0) :: st) lv S := R_get C inX7 0 (b := a 0) (fs := oM0 a S) (ci := 7) rfl rfl 4 (by decide) hlink rfl rfl hd k
theorem gtM_X7_loads (C : CX D [(cA, .int), (cZ, .boolean)] p s m args meth c A cc nL own ret) {index : Nat} (hlink : Cond.fieldLink own index "LineDealerModel" "loads" "[I" ∈ tbG) (hd : decode cc pc = .ok (.getfield index, 3)) (k : RU D (wM a cA cZ) p l e d s m args below meth c A nL Qf X (pc+3) (.ref (a 4) :: st) lv S) : RU D (wM a cA cZ) p l e d s m args below meth c A nL Qf X (pc) (.ref (a 0) :: st) lv S := R_get C inX7 0 (b := a 0) (fs := oM0 a S) (ci := 7) rfl rfl 5 (by decide) hlink rfl rfl hd k
theorem gtM_X7_ends (C : CX D [(cA, .int), (cZ, .boolean)] p s m args meth c A cc nL own ret) {index : Nat} (hlink : Cond.fieldLink own index "LineDealerModel" "ends" "[I" ∈ tbG) (hd : decode cc pc = .ok (.getfield index, 3)) (k : RU D (wM a cA cZ) p l e d s m args below meth c A nL Qf X (pc+3) (.ref (a 5) :: st) lv S) : RU D (wM a cA cZ) p l e d s m args below meth c A nL Qf X (pc) (.ref (a 0) :: st) lv S := R_get C inX7 0 (b := a 0) (fs := oM0 a S) (ci := 7) rfl rfl 6 (by decide) hlink rfl rfl hd k
theorem gtM_X7_live (C : CX D [(cA, .int), (cZ, .boolean)] p s m args meth c A cc nL own ret) {index : Nat} (hlink : Cond.fieldLink own index "LineDealerModel" "live" "I" ∈ tbG) (hd : decode cc pc = .ok (.getfield index, 3)) (k : RU D (wM a cA cZ) p l e d s m args below meth c A nL Qf X (pc+3) (.int (S.1 2) :: st) lv S) : RU D (wM a cA cZ) p l e d s m args below meth c A nL Qf X (pc) (.ref (a 0) :: st) lv S := R_get C inX7 0 (b := a 0) (fs := oM0 a S) (ci := 7) rfl rfl 7 (by decide) hlink rfl rfl hd k
theorem ptM_X7_live (C : CX D [(cA, .int), (cZ, .boolean)] p s m args meth c A cc nL own ret) {index : Nat} {x : Int32} (hlink : Cond.fieldLink own index "LineDealerModel" "live" "I" ∈ tbG) (hd : decode cc pc = .ok (.putfield index, 3)) (k : RU D (wM a cA cZ) p l e d s m args below meth c A nL Qf X (pc+3) (st) lv (sF S 2 x)) : RU D (wM a cA cZ) p l e d s m args below meth c A nL Qf X (pc) (.int x :: .ref (a 0) :: st) lv S := R_put C inX7 tyX7 tyX7_ok nmX7 0 (b := a 0) (fs := oM0 a S) (ci := 7) rfl rfl 7 (by decide) hlink rfl rfl rfl (by simp [oM0]) (S1 := sF S 2 x) rfl hd k
theorem gtM_X7_window (C : CX D [(cA, .int), (cZ, .boolean)] p s m args meth c A cc nL own ret) {index : Nat} (hlink : Cond.fieldLink own index "LineDealerModel" "window" "I" ∈ tbG) (hd : decode cc pc = .ok (.getfield index, 3)) (k : RU D (wM a cA cZ) p l e d s m args below meth c A nL Qf X (pc+3) (.int (S.1 3) :: st) lv S) : RU D (wM a cA cZ) p l e d s m args below meth c A nL Qf X (pc) (.ref (a 0) :: st) lv S := R_get C inX7 0 (b := a 0) (fs := oM0 a S) (ci := 7) rfl rfl 8 (by decide) hlink rfl rfl hd k
theorem ptM_X7_window (C : CX D [(cA, .int), (cZ, .boolean)] p s m args meth c A cc nL own ret) {index : Nat} {x : Int32} (hlink : Cond.fieldLink own index "LineDealerModel" "window" "I" ∈ tbG) (hd : decode cc pc = .ok (.putfield index, 3)) (k : RU D (wM a cA cZ) p l e d s m args below meth c A nL Qf X (pc+3) (st) lv (sF S 3 x)) : RU D (wM a cA cZ) p l e d s m args below meth c A nL Qf X (pc) (.int x :: .ref (a 0) :: st) lv S := R_put C inX7 tyX7 tyX7_ok nmX7 0 (b := a 0) (fs := oM0 a S) (ci := 7) rfl rfl 8 (by decide) hlink rfl rfl rfl (by simp [oM0]) (S1 := sF S 3 x) rfl hd k
theorem gtM_X7_slack (C : CX D [(cA, .int), (cZ, .boolean)] p s m args meth c A cc nL own ret) {index : Nat} (hlink : Cond.fieldLink own index "LineDealerModel" "slack" "I" ∈ tbG) (hd : decode cc pc = .ok (.getfield index, 3)) (k : RU D (wM a cA cZ) p l e d s m args below meth c A nL Qf X (pc+3) (.int (S.1 4) :: st) lv S) : RU D (wM a cA cZ) p l e d s m args below meth c A nL Qf X (pc) (.ref (a 0) :: st) lv S := R_get C inX7 0 (b := a 0) (fs := oM0 a S) (ci := 7) rfl rfl 9 (by decide) hlink rfl rfl hd k
theorem ptM_X7_slack (C : CX D [(cA, .int), (cZ, .boolean)] p s m args meth c A cc nL own ret) {index : Nat} {x : Int32} (hlink : Cond.fieldLink own index "LineDealerModel" "slack" "I" ∈ tbG) (hd : decode cc pc = .ok (.putfield index, 3)) (k : RU D (wM a cA cZ) p l e d s m args below meth c A nL Qf X (pc+3) (st) lv (sF S 4 x)) : RU D (wM a cA cZ) p l e d s m args below meth c A nL Qf X (pc) (.int x :: .ref (a 0) :: st) lv S := R_put C inX7 tyX7 tyX7_ok nmX7 0 (b := a 0) (fs := oM0 a S) (ci := 7) rfl rfl 9 (by decide) hlink rfl rfl rfl (by simp [oM0]) (S1 := sF S 4 x) rfl hd k
theorem gtM_X7_lean (C : CX D [(cA, .int), (cZ, .boolean)] p s m args meth c A cc nL own ret) {index : Nat} (hlink : Cond.fieldLink own index "LineDealerModel" "lean" "I" ∈ tbG) (hd : decode cc pc = .ok (.getfield index, 3)) (k : RU D (wM a cA cZ) p l e d s m args below meth c A nL Qf X (pc+3) (.int (S.1 5) :: st) lv S) : RU D (wM a cA cZ) p l e d s m args below meth c A nL Qf X (pc) (.ref (a 0) :: st) lv S := R_get C inX7 0 (b := a 0) (fs := oM0 a S) (ci := 7) rfl rfl 10 (by decide) hlink rfl rfl hd k
theorem ptM_X7_lean (C : CX D [(cA, .int), (cZ, .boolean)] p s m args meth c A cc nL own ret) {index : Nat} {x : Int32} (hlink : Cond.fieldLink own index "LineDealerModel" "lean" "I" ∈ tbG) (hd : decode cc pc = .ok (.putfield index, 3)) (k : RU D (wM a cA cZ) p l e d s m args below meth c A nL Qf X (pc+3) (st) lv (sF S 5 x)) : RU D (wM a cA cZ) p l e d s m args below meth c A nL Qf X (pc) (.int x :: .ref (a 0) :: st) lv S := R_put C inX7 tyX7 tyX7_ok nmX7 0 (b := a 0) (fs := oM0 a S) (ci := 7) rfl rfl 10 (by decide) hlink rfl rfl rfl (by simp [oM0]) (S1 := sF S 5 x) rfl hd k
theorem gtM_X7_rule (C : CX D [(cA, .int), (cZ, .boolean)] p s m args meth c A cc nL own ret) {index : Nat} (hlink : Cond.fieldLink own index "LineDealerModel" "rule" "I" ∈ tbG) (hd : decode cc pc = .ok (.getfield index, 3)) (k : RU D (wM a cA cZ) p l e d s m args below meth c A nL Qf X (pc+3) (.int (S.1 6) :: st) lv S) : RU D (wM a cA cZ) p l e d s m args below meth c A nL Qf X (pc) (.ref (a 0) :: st) lv S := R_get C inX7 0 (b := a 0) (fs := oM0 a S) (ci := 7) rfl rfl 11 (by decide) hlink rfl rfl hd k
theorem ptM_X7_rule (C : CX D [(cA, .int), (cZ, .boolean)] p s m args meth c A cc nL own ret) {index : Nat} {x : Int32} (hlink : Cond.fieldLink own index "LineDealerModel" "rule" "I" ∈ tbG) (hd : decode cc pc = .ok (.putfield index, 3)) (k : RU D (wM a cA cZ) p l e d s m args below meth c A nL Qf X (pc+3) (st) lv (sF S 6 x)) : RU D (wM a cA cZ) p l e d s m args below meth c A nL Qf X (pc) (.int x :: .ref (a 0) :: st) lv S := R_put C inX7 tyX7 tyX7_ok nmX7 0 (b := a 0) (fs := oM0 a S) (ci := 7) rfl rfl 11 (by decide) hlink rfl rfl rfl (by simp [oM0]) (S1 := sF S 6 x) rfl hd k
theorem gtM_X7_moves (C : CX D [(cA, .int), (cZ, .boolean)] p s m args meth c A cc nL own ret) {index : Nat} (hlink : Cond.fieldLink own index "LineDealerModel" "moves" "I" ∈ tbG) (hd : decode cc pc = .ok (.getfield index, 3)) (k : RU D (wM a cA cZ) p l e d s m args below meth c A nL Qf X (pc+3) (.int (S.1 7) :: st) lv S) : RU D (wM a cA cZ) p l e d s m args below meth c A nL Qf X (pc) (.ref (a 0) :: st) lv S := R_get C inX7 0 (b := a 0) (fs := oM0 a S) (ci := 7) rfl rfl 12 (by decide) hlink rfl rfl hd k
theorem ptM_X7_moves (C : CX D [(cA, .int), (cZ, .boolean)] p s m args meth c A cc nL own ret) {index : Nat} {x : Int32} (hlink : Cond.fieldLink own index "LineDealerModel" "moves" "I" ∈ tbG) (hd : decode cc pc = .ok (.putfield index, 3)) (k : RU D (wM a cA cZ) p l e d s m args below meth c A nL Qf X (pc+3) (st) lv (sF S 7 x)) : RU D (wM a cA cZ) p l e d s m args below meth c A nL Qf X (pc) (.int x :: .ref (a 0) :: st) lv S := R_put C inX7 tyX7 tyX7_ok nmX7 0 (b := a 0) (fs := oM0 a S) (ci := 7) rfl rfl 12 (by decide) hlink rfl rfl rfl (by simp [oM0]) (S1 := sF S 7 x) rfl hd k
theorem gtM_X7_isAnew (C : CX D [(cA, .int), (cZ, .boolean)] p s m args meth c A cc nL own ret) {index : Nat} (hlink : Cond.fieldLink own index "LineDealerModel" "isAnew" "[Z" ∈ tbG) (hd : decode cc pc = .ok (.getfield index, 3)) (k : RU D (wM a cA cZ) p l e d s m args below meth c A nL Qf X (pc+3) (.ref (a 6) :: st) lv S) : RU D (wM a cA cZ) p l e d s m args below meth c A nL Qf X (pc) (.ref (a 0) :: st) lv S := R_get C inX7 0 (b := a 0) (fs := oM0 a S) (ci := 7) rfl rfl 13 (by decide) hlink rfl rfl hd k
theorem gtM_X7_load (C : CX D [(cA, .int), (cZ, .boolean)] p s m args meth c A cc nL own ret) {index : Nat} (hlink : Cond.fieldLink own index "LineDealerModel" "load" "[I" ∈ tbG) (hd : decode cc pc = .ok (.getfield index, 3)) (k : RU D (wM a cA cZ) p l e d s m args below meth c A nL Qf X (pc+3) (.ref (a 7) :: st) lv S) : RU D (wM a cA cZ) p l e d s m args below meth c A nL Qf X (pc) (.ref (a 0) :: st) lv S := R_get C inX7 0 (b := a 0) (fs := oM0 a S) (ci := 7) rfl rfl 14 (by decide) hlink rfl rfl hd k
theorem gtM_X7_at (C : CX D [(cA, .int), (cZ, .boolean)] p s m args meth c A cc nL own ret) {index : Nat} (hlink : Cond.fieldLink own index "LineDealerModel" "at" "[I" ∈ tbG) (hd : decode cc pc = .ok (.getfield index, 3)) (k : RU D (wM a cA cZ) p l e d s m args below meth c A nL Qf X (pc+3) (.ref (a 8) :: st) lv S) : RU D (wM a cA cZ) p l e d s m args below meth c A nL Qf X (pc) (.ref (a 0) :: st) lv S := R_get C inX7 0 (b := a 0) (fs := oM0 a S) (ci := 7) rfl rfl 15 (by decide) hlink rfl rfl hd k
theorem gtM_X7_value (C : CX D [(cA, .int), (cZ, .boolean)] p s m args meth c A cc nL own ret) {index : Nat} (hlink : Cond.fieldLink own index "LineDealerModel" "value" "[I" ∈ tbG) (hd : decode cc pc = .ok (.getfield index, 3)) (k : RU D (wM a cA cZ) p l e d s m args below meth c A nL Qf X (pc+3) (.ref (a 9) :: st) lv S) : RU D (wM a cA cZ) p l e d s m args below meth c A nL Qf X (pc) (.ref (a 0) :: st) lv S := R_get C inX7 0 (b := a 0) (fs := oM0 a S) (ci := 7) rfl rfl 16 (by decide) hlink rfl rfl hd k
theorem gtM_X7_then (C : CX D [(cA, .int), (cZ, .boolean)] p s m args meth c A cc nL own ret) {index : Nat} (hlink : Cond.fieldLink own index "LineDealerModel" "then" "[I" ∈ tbG) (hd : decode cc pc = .ok (.getfield index, 3)) (k : RU D (wM a cA cZ) p l e d s m args below meth c A nL Qf X (pc+3) (.ref (a 10) :: st) lv S) : RU D (wM a cA cZ) p l e d s m args below meth c A nL Qf X (pc) (.ref (a 0) :: st) lv S := R_get C inX7 0 (b := a 0) (fs := oM0 a S) (ci := 7) rfl rfl 17 (by decide) hlink rfl rfl hd k
theorem gtM_X7_of (C : CX D [(cA, .int), (cZ, .boolean)] p s m args meth c A cc nL own ret) {index : Nat} (hlink : Cond.fieldLink own index "LineDealerModel" "of" "[I" ∈ tbG) (hd : decode cc pc = .ok (.getfield index, 3)) (k : RU D (wM a cA cZ) p l e d s m args below meth c A nL Qf X (pc+3) (.ref (a 11) :: st) lv S) : RU D (wM a cA cZ) p l e d s m args below meth c A nL Qf X (pc) (.ref (a 0) :: st) lv S := R_get C inX7 0 (b := a 0) (fs := oM0 a S) (ci := 7) rfl rfl 18 (by decide) hlink rfl rfl hd k
theorem ldM0 (C : CX D [(cA, .int), (cZ, .boolean)] p s m args meth c A cc nL own ret) {i : Int32} (hd : decode cc pc = .ok (.iaload, 1)) (k : RU D (wM a cA cZ) p l e d s m args below meth c A nL Qf X (pc+1) (.int (S.2 0 (ix i)) :: st) lv S) : RU D (wM a cA cZ) p l e d s m args below meth c A nL Qf (gA (inb i 300) X) (pc) (.int i :: .ref (a 1) :: st) lv S := R_iald C 1 0 rfl rfl hd k
theorem svM0 (C : CX D [(cA, .int), (cZ, .boolean)] p s m args meth c A cc nL own ret) {i x : Int32} (hd : decode cc pc = .ok (.iastore, 1)) (k : RU D (wM a cA cZ) p l e d s m args below meth c A nL Qf X (pc+1) (st) lv (sA S 0 (ix i) x)) : RU D (wM a cA cZ) p l e d s m args below meth c A nL Qf (gA (inb i 300) X) (pc) (.int x :: .int i :: .ref (a 1) :: st) lv S := R_iast C 1 0 rfl rfl rfl hd k
theorem lnM0 (C : CX D [(cA, .int), (cZ, .boolean)] p s m args meth c A cc nL own ret) (hd : decode cc pc = .ok (.arraylength, 1)) (k : RU D (wM a cA cZ) p l e d s m args below meth c A nL Qf X (pc+1) (.int 300 :: st) lv S) : RU D (wM a cA cZ) p l e d s m args below meth c A nL Qf X (pc) (.ref (a 1) :: st) lv S := R_alen C 1 0 rfl rfl rfl hd k
theorem ldM1 (C : CX D [(cA, .int), (cZ, .boolean)] p s m args meth c A cc nL own ret) {i : Int32} (hd : decode cc pc = .ok (.iaload, 1)) (k : RU D (wM a cA cZ) p l e d s m args below meth c A nL Qf X (pc+1) (.int (S.2 1 (ix i)) :: st) lv S) : RU D (wM a cA cZ) p l e d s m args below meth c A nL Qf (gA (inb i 300) X) (pc) (.int i :: .ref (a 2) :: st) lv S := R_iald C 2 0 rfl rfl hd k
theorem svM1 (C : CX D [(cA, .int), (cZ, .boolean)] p s m args meth c A cc nL own ret) {i x : Int32} (hd : decode cc pc = .ok (.iastore, 1)) (k : RU D (wM a cA cZ) p l e d s m args below meth c A nL Qf X (pc+1) (st) lv (sA S 1 (ix i) x)) : RU D (wM a cA cZ) p l e d s m args below meth c A nL Qf (gA (inb i 300) X) (pc) (.int x :: .int i :: .ref (a 2) :: st) lv S := R_iast C 2 0 rfl rfl rfl hd k
theorem lnM1 (C : CX D [(cA, .int), (cZ, .boolean)] p s m args meth c A cc nL own ret) (hd : decode cc pc = .ok (.arraylength, 1)) (k : RU D (wM a cA cZ) p l e d s m args below meth c A nL Qf X (pc+1) (.int 300 :: st) lv S) : RU D (wM a cA cZ) p l e d s m args below meth c A nL Qf X (pc) (.ref (a 2) :: st) lv S := R_alen C 2 0 rfl rfl rfl hd k
theorem ldM2 (C : CX D [(cA, .int), (cZ, .boolean)] p s m args meth c A cc nL own ret) {i : Int32} (hd : decode cc pc = .ok (.iaload, 1)) (k : RU D (wM a cA cZ) p l e d s m args below meth c A nL Qf X (pc+1) (.int (S.2 2 (ix i)) :: st) lv S) : RU D (wM a cA cZ) p l e d s m args below meth c A nL Qf (gA (inb i 300) X) (pc) (.int i :: .ref (a 3) :: st) lv S := R_iald C 3 0 rfl rfl hd k
theorem svM2 (C : CX D [(cA, .int), (cZ, .boolean)] p s m args meth c A cc nL own ret) {i x : Int32} (hd : decode cc pc = .ok (.iastore, 1)) (k : RU D (wM a cA cZ) p l e d s m args below meth c A nL Qf X (pc+1) (st) lv (sA S 2 (ix i) x)) : RU D (wM a cA cZ) p l e d s m args below meth c A nL Qf (gA (inb i 300) X) (pc) (.int x :: .int i :: .ref (a 3) :: st) lv S := R_iast C 3 0 rfl rfl rfl hd k
theorem lnM2 (C : CX D [(cA, .int), (cZ, .boolean)] p s m args meth c A cc nL own ret) (hd : decode cc pc = .ok (.arraylength, 1)) (k : RU D (wM a cA cZ) p l e d s m args below meth c A nL Qf X (pc+1) (.int 300 :: st) lv S) : RU D (wM a cA cZ) p l e d s m args below meth c A nL Qf X (pc) (.ref (a 3) :: st) lv S := R_alen C 3 0 rfl rfl rfl hd k
theorem ldM3 (C : CX D [(cA, .int), (cZ, .boolean)] p s m args meth c A cc nL own ret) {i : Int32} (hd : decode cc pc = .ok (.iaload, 1)) (k : RU D (wM a cA cZ) p l e d s m args below meth c A nL Qf X (pc+1) (.int (S.2 3 (ix i)) :: st) lv S) : RU D (wM a cA cZ) p l e d s m args below meth c A nL Qf (gA (inb i 8) X) (pc) (.int i :: .ref (a 4) :: st) lv S := R_iald C 4 0 rfl rfl hd k
theorem svM3 (C : CX D [(cA, .int), (cZ, .boolean)] p s m args meth c A cc nL own ret) {i x : Int32} (hd : decode cc pc = .ok (.iastore, 1)) (k : RU D (wM a cA cZ) p l e d s m args below meth c A nL Qf X (pc+1) (st) lv (sA S 3 (ix i) x)) : RU D (wM a cA cZ) p l e d s m args below meth c A nL Qf (gA (inb i 8) X) (pc) (.int x :: .int i :: .ref (a 4) :: st) lv S := R_iast C 4 0 rfl rfl rfl hd k
theorem lnM3 (C : CX D [(cA, .int), (cZ, .boolean)] p s m args meth c A cc nL own ret) (hd : decode cc pc = .ok (.arraylength, 1)) (k : RU D (wM a cA cZ) p l e d s m args below meth c A nL Qf X (pc+1) (.int 8 :: st) lv S) : RU D (wM a cA cZ) p l e d s m args below meth c A nL Qf X (pc) (.ref (a 4) :: st) lv S := R_alen C 4 0 rfl rfl rfl hd k
theorem ldM4 (C : CX D [(cA, .int), (cZ, .boolean)] p s m args meth c A cc nL own ret) {i : Int32} (hd : decode cc pc = .ok (.iaload, 1)) (k : RU D (wM a cA cZ) p l e d s m args below meth c A nL Qf X (pc+1) (.int (S.2 4 (ix i)) :: st) lv S) : RU D (wM a cA cZ) p l e d s m args below meth c A nL Qf (gA (inb i 320) X) (pc) (.int i :: .ref (a 5) :: st) lv S := R_iald C 5 0 rfl rfl hd k
theorem svM4 (C : CX D [(cA, .int), (cZ, .boolean)] p s m args meth c A cc nL own ret) {i x : Int32} (hd : decode cc pc = .ok (.iastore, 1)) (k : RU D (wM a cA cZ) p l e d s m args below meth c A nL Qf X (pc+1) (st) lv (sA S 4 (ix i) x)) : RU D (wM a cA cZ) p l e d s m args below meth c A nL Qf (gA (inb i 320) X) (pc) (.int x :: .int i :: .ref (a 5) :: st) lv S := R_iast C 5 0 rfl rfl rfl hd k
theorem lnM4 (C : CX D [(cA, .int), (cZ, .boolean)] p s m args meth c A cc nL own ret) (hd : decode cc pc = .ok (.arraylength, 1)) (k : RU D (wM a cA cZ) p l e d s m args below meth c A nL Qf X (pc+1) (.int 320 :: st) lv S) : RU D (wM a cA cZ) p l e d s m args below meth c A nL Qf X (pc) (.ref (a 5) :: st) lv S := R_alen C 5 0 rfl rfl rfl hd k
theorem ldM5 (C : CX D [(cA, .int), (cZ, .boolean)] p s m args meth c A cc nL own ret) {i : Int32} (hd : decode cc pc = .ok (.baload, 1)) (k : RU D (wM a cA cZ) p l e d s m args below meth c A nL Qf X (pc+1) (.int (S.2 5 (ix i)) :: st) lv S) : RU D (wM a cA cZ) p l e d s m args below meth c A nL Qf (gA (inb i 300) X) (pc) (.int i :: .ref (a 6) :: st) lv S := R_zald C 6 1 rfl rfl hd k
theorem svM5 (C : CX D [(cA, .int), (cZ, .boolean)] p s m args meth c A cc nL own ret) {i x : Int32} (hd : decode cc pc = .ok (.bastore, 1)) (k : RU D (wM a cA cZ) p l e d s m args below meth c A nL Qf X (pc+1) (st) lv (sA S 5 (ix i) x)) : RU D (wM a cA cZ) p l e d s m args below meth c A nL Qf (gA (inb i 300) (gA (b01 x) X)) (pc) (.int x :: .int i :: .ref (a 6) :: st) lv S := R_zast C 6 1 rfl rfl rfl hd k
theorem lnM5 (C : CX D [(cA, .int), (cZ, .boolean)] p s m args meth c A cc nL own ret) (hd : decode cc pc = .ok (.arraylength, 1)) (k : RU D (wM a cA cZ) p l e d s m args below meth c A nL Qf X (pc+1) (.int 300 :: st) lv S) : RU D (wM a cA cZ) p l e d s m args below meth c A nL Qf X (pc) (.ref (a 6) :: st) lv S := R_alen C 6 1 rfl rfl rfl hd k
theorem ldM6 (C : CX D [(cA, .int), (cZ, .boolean)] p s m args meth c A cc nL own ret) {i : Int32} (hd : decode cc pc = .ok (.iaload, 1)) (k : RU D (wM a cA cZ) p l e d s m args below meth c A nL Qf X (pc+1) (.int (S.2 6 (ix i)) :: st) lv S) : RU D (wM a cA cZ) p l e d s m args below meth c A nL Qf (gA (inb i 3) X) (pc) (.int i :: .ref (a 7) :: st) lv S := R_iald C 7 0 rfl rfl hd k
theorem svM6 (C : CX D [(cA, .int), (cZ, .boolean)] p s m args meth c A cc nL own ret) {i x : Int32} (hd : decode cc pc = .ok (.iastore, 1)) (k : RU D (wM a cA cZ) p l e d s m args below meth c A nL Qf X (pc+1) (st) lv (sA S 6 (ix i) x)) : RU D (wM a cA cZ) p l e d s m args below meth c A nL Qf (gA (inb i 3) X) (pc) (.int x :: .int i :: .ref (a 7) :: st) lv S := R_iast C 7 0 rfl rfl rfl hd k
theorem lnM6 (C : CX D [(cA, .int), (cZ, .boolean)] p s m args meth c A cc nL own ret) (hd : decode cc pc = .ok (.arraylength, 1)) (k : RU D (wM a cA cZ) p l e d s m args below meth c A nL Qf X (pc+1) (.int 3 :: st) lv S) : RU D (wM a cA cZ) p l e d s m args below meth c A nL Qf X (pc) (.ref (a 7) :: st) lv S := R_alen C 7 0 rfl rfl rfl hd k
theorem ldM7 (C : CX D [(cA, .int), (cZ, .boolean)] p s m args meth c A cc nL own ret) {i : Int32} (hd : decode cc pc = .ok (.iaload, 1)) (k : RU D (wM a cA cZ) p l e d s m args below meth c A nL Qf X (pc+1) (.int (S.2 7 (ix i)) :: st) lv S) : RU D (wM a cA cZ) p l e d s m args below meth c A nL Qf (gA (inb i 40) X) (pc) (.int i :: .ref (a 8) :: st) lv S := R_iald C 8 0 rfl rfl hd k
theorem svM7 (C : CX D [(cA, .int), (cZ, .boolean)] p s m args meth c A cc nL own ret) {i x : Int32} (hd : decode cc pc = .ok (.iastore, 1)) (k : RU D (wM a cA cZ) p l e d s m args below meth c A nL Qf X (pc+1) (st) lv (sA S 7 (ix i) x)) : RU D (wM a cA cZ) p l e d s m args below meth c A nL Qf (gA (inb i 40) X) (pc) (.int x :: .int i :: .ref (a 8) :: st) lv S := R_iast C 8 0 rfl rfl rfl hd k
theorem lnM7 (C : CX D [(cA, .int), (cZ, .boolean)] p s m args meth c A cc nL own ret) (hd : decode cc pc = .ok (.arraylength, 1)) (k : RU D (wM a cA cZ) p l e d s m args below meth c A nL Qf X (pc+1) (.int 40 :: st) lv S) : RU D (wM a cA cZ) p l e d s m args below meth c A nL Qf X (pc) (.ref (a 8) :: st) lv S := R_alen C 8 0 rfl rfl rfl hd k
theorem ldM8 (C : CX D [(cA, .int), (cZ, .boolean)] p s m args meth c A cc nL own ret) {i : Int32} (hd : decode cc pc = .ok (.iaload, 1)) (k : RU D (wM a cA cZ) p l e d s m args below meth c A nL Qf X (pc+1) (.int (S.2 8 (ix i)) :: st) lv S) : RU D (wM a cA cZ) p l e d s m args below meth c A nL Qf (gA (inb i 40) X) (pc) (.int i :: .ref (a 9) :: st) lv S := R_iald C 9 0 rfl rfl hd k
theorem svM8 (C : CX D [(cA, .int), (cZ, .boolean)] p s m args meth c A cc nL own ret) {i x : Int32} (hd : decode cc pc = .ok (.iastore, 1)) (k : RU D (wM a cA cZ) p l e d s m args below meth c A nL Qf X (pc+1) (st) lv (sA S 8 (ix i) x)) : RU D (wM a cA cZ) p l e d s m args below meth c A nL Qf (gA (inb i 40) X) (pc) (.int x :: .int i :: .ref (a 9) :: st) lv S := R_iast C 9 0 rfl rfl rfl hd k
theorem lnM8 (C : CX D [(cA, .int), (cZ, .boolean)] p s m args meth c A cc nL own ret) (hd : decode cc pc = .ok (.arraylength, 1)) (k : RU D (wM a cA cZ) p l e d s m args below meth c A nL Qf X (pc+1) (.int 40 :: st) lv S) : RU D (wM a cA cZ) p l e d s m args below meth c A nL Qf X (pc) (.ref (a 9) :: st) lv S := R_alen C 9 0 rfl rfl rfl hd k
theorem ldM9 (C : CX D [(cA, .int), (cZ, .boolean)] p s m args meth c A cc nL own ret) {i : Int32} (hd : decode cc pc = .ok (.iaload, 1)) (k : RU D (wM a cA cZ) p l e d s m args below meth c A nL Qf X (pc+1) (.int (S.2 9 (ix i)) :: st) lv S) : RU D (wM a cA cZ) p l e d s m args below meth c A nL Qf (gA (inb i 40) X) (pc) (.int i :: .ref (a 10) :: st) lv S := R_iald C 10 0 rfl rfl hd k
theorem svM9 (C : CX D [(cA, .int), (cZ, .boolean)] p s m args meth c A cc nL own ret) {i x : Int32} (hd : decode cc pc = .ok (.iastore, 1)) (k : RU D (wM a cA cZ) p l e d s m args below meth c A nL Qf X (pc+1) (st) lv (sA S 9 (ix i) x)) : RU D (wM a cA cZ) p l e d s m args below meth c A nL Qf (gA (inb i 40) X) (pc) (.int x :: .int i :: .ref (a 10) :: st) lv S := R_iast C 10 0 rfl rfl rfl hd k
theorem lnM9 (C : CX D [(cA, .int), (cZ, .boolean)] p s m args meth c A cc nL own ret) (hd : decode cc pc = .ok (.arraylength, 1)) (k : RU D (wM a cA cZ) p l e d s m args below meth c A nL Qf X (pc+1) (.int 40 :: st) lv S) : RU D (wM a cA cZ) p l e d s m args below meth c A nL Qf X (pc) (.ref (a 10) :: st) lv S := R_alen C 10 0 rfl rfl rfl hd k
theorem ldM10 (C : CX D [(cA, .int), (cZ, .boolean)] p s m args meth c A cc nL own ret) {i : Int32} (hd : decode cc pc = .ok (.iaload, 1)) (k : RU D (wM a cA cZ) p l e d s m args below meth c A nL Qf X (pc+1) (.int (S.2 10 (ix i)) :: st) lv S) : RU D (wM a cA cZ) p l e d s m args below meth c A nL Qf (gA (inb i 8) X) (pc) (.int i :: .ref (a 11) :: st) lv S := R_iald C 11 0 rfl rfl hd k
theorem svM10 (C : CX D [(cA, .int), (cZ, .boolean)] p s m args meth c A cc nL own ret) {i x : Int32} (hd : decode cc pc = .ok (.iastore, 1)) (k : RU D (wM a cA cZ) p l e d s m args below meth c A nL Qf X (pc+1) (st) lv (sA S 10 (ix i) x)) : RU D (wM a cA cZ) p l e d s m args below meth c A nL Qf (gA (inb i 8) X) (pc) (.int x :: .int i :: .ref (a 11) :: st) lv S := R_iast C 11 0 rfl rfl rfl hd k
theorem lnM10 (C : CX D [(cA, .int), (cZ, .boolean)] p s m args meth c A cc nL own ret) (hd : decode cc pc = .ok (.arraylength, 1)) (k : RU D (wM a cA cZ) p l e d s m args below meth c A nL Qf X (pc+1) (.int 8 :: st) lv S) : RU D (wM a cA cZ) p l e d s m args below meth c A nL Qf X (pc) (.ref (a 11) :: st) lv S := R_alen C 11 0 rfl rfl rfl hd k
end WRM
end
section
theorem wd_0_0 : Cond.selects RX1 yX1_chooseHost yX1_chooseHost ∈ tbG := wm0 (k := 0) rfl rfl
theorem wd_0_1 : Cond.selects RX1 yX1_scoreOf yX1_scoreOf ∈ tbG := wm0 (k := 1) rfl rfl
theorem wd_0_2 : Cond.selects RX1 yX1_scoreOfCopies yX1_scoreOfCopies ∈ tbG := wm0 (k := 2) rfl rfl
theorem wd_0_3 : Cond.selects RX4 yX4_putEnd yX4_putEnd ∈ tbG := wm0 (k := 3) rfl rfl
theorem wd_0_4 : Cond.selects RX6 yX6_keepWindow yX6_keepWindow ∈ tbG := wm0 (k := 4) rfl rfl
theorem wd_0_5 : Cond.selects RX4 yX4_takeEnd yX4_takeEnd ∈ tbG := wm0 (k := 5) rfl rfl
theorem wd_0_6 : Cond.selects RX6 yX6_makeBetterMove yX6_makeBetterMove ∈ tbG := wm0 (k := 6) rfl rfl
theorem wd_0_7 : Cond.selects RX3 yX3_weighMovesOf yX3_weighMovesOf ∈ tbG := wm0 (k := 7) rfl rfl
theorem wd_0_8 : Cond.selects RX3 yX3_keepIfBetter yX3_keepIfBetter ∈ tbG := wm0 (k := 8) rfl rfl
theorem wd_0_9 : Cond.selects RX0 yX0_collectLines yX0_collectLines ∈ tbG := wm0 (k := 9) rfl rfl
theorem wd_0_10 : Cond.selects RX0 yX0_dealFrom yX0_dealFrom ∈ tbG := wm0 (k := 10) rfl rfl
theorem wd_0_11 : Cond.selects RX0 yX0_tryHost yX0_tryHost ∈ tbG := wm0 (k := 11) rfl rfl
theorem wd_0_12 : Cond.selects RX5 yX5_goOneRound yX5_goOneRound ∈ tbG := wm0 (k := 12) rfl rfl
theorem wd_0_13 : Cond.selects RX5 yX5_lowerTo yX5_lowerTo ∈ tbG := wm0 (k := 13) rfl rfl
theorem wd_0_14 : Cond.selects RX2 yX2_leastMasterFor yX2_leastMasterFor ∈ tbG := wm0 (k := 14) rfl rfl
theorem wd_0_15 : Cond.selects RX7 yX7_deals yX7_deals ∈ tbG := wm0 (k := 15) rfl rfl
theorem wd_0_16 : Cond.selects RX7 yX7_roomFor yX7_roomFor ∈ tbG := wm0 (k := 16) rfl rfl
theorem wd_0_17 : Cond.selects RX7 yX7_scoreOf yX7_scoreOf ∈ tbG := wm0 (k := 17) rfl rfl
theorem wd_0_18 : Cond.selects RX7 yX7_greatest yX7_greatest ∈ tbG := wm0 (k := 18) rfl rfl
theorem wd_0_19 : Cond.selects RX7 yX7_puts yX7_puts ∈ tbG := wm0 (k := 19) rfl rfl
theorem wd_0_20 : Cond.selects RX7 yX7_shuts yX7_shuts ∈ tbG := wm0 (k := 20) rfl rfl
theorem wd_0_21 : Cond.selects RX7 yX7_isLive yX7_isLive ∈ tbG := wm0 (k := 21) rfl rfl
theorem wd_0_22 : Cond.selects RX7 yX7_moves yX7_moves ∈ tbG := wm0 (k := 22) rfl rfl
theorem wd_0_23 : Cond.selects RX7 yX7_change yX7_change ∈ tbG := wm0 (k := 23) rfl rfl
theorem wd_0_24 : Cond.selects RX7 yX7_copiesOf yX7_copiesOf ∈ tbG := wm0 (k := 24) rfl rfl
theorem wd_0_25 : Cond.selects RX7 yX7_dealt yX7_dealt ∈ tbG := wm0 (k := 25) rfl rfl
theorem wd_0_26 : Cond.selects RX7 yX7_runs yX7_runs ∈ tbG := wm0 (k := 26) rfl rfl
theorem wd_1_1 : Cond.initialized RX6 ∈ tbG := wm1 (k := 1) rfl rfl
theorem wd_1_2 : Cond.initialized RX4 ∈ tbG := wm1 (k := 2) rfl rfl
theorem wd_1_3 : Cond.initialized "java/lang/Math" ∈ tbG := wm1 (k := 3) rfl rfl
theorem wd_1_4 : Cond.initialized RX1 ∈ tbG := wm1 (k := 4) rfl rfl
theorem wd_1_5 : Cond.initialized RX3 ∈ tbG := wm1 (k := 5) rfl rfl
theorem wd_1_6 : Cond.initialized RX0 ∈ tbG := wm1 (k := 6) rfl rfl
theorem wd_1_7 : Cond.initialized RX5 ∈ tbG := wm1 (k := 7) rfl rfl
theorem wd_1_8 : Cond.initialized RX2 ∈ tbG := wm1 (k := 8) rfl rfl
theorem wd_1_9 : Cond.initialized RX7 ∈ tbG := wm1 (k := 9) rfl rfl
theorem wd_1_10 : Cond.initialized "java/lang/System" ∈ tbG := wm1 (k := 10) rfl rfl
theorem wd_1_11 : Cond.initialized RJ7 ∈ tbG := wm1 (k := 11) rfl rfl
theorem wd_1_23 : Cond.static Lib.Math.min.name ∈ tbG := wm1 (k := 23) rfl rfl
theorem wd_1_24 : Cond.code Lib.Math.min.name Lib.Math.min.code 2 (some .int) ∈ tbG := wm1 (k := 24) rfl rfl
theorem wd_1_26 : Cond.static Lib.Math.max.name ∈ tbG := wm1 (k := 26) rfl rfl
theorem wd_1_27 : Cond.code Lib.Math.max.name Lib.Math.max.code 2 (some .int) ∈ tbG := wm1 (k := 27) rfl rfl
theorem wd_1_32 : Cond.fieldLink RX4 9 "LineDealer$Net" "firstEnd" "[I" ∈ tbG := wm1 (k := 32) rfl rfl
theorem wd_1_33 : Cond.fieldLink RX1 30 "LineDealer$Net" "firstEnd" "[I" ∈ tbG := wm1 (k := 33) rfl rfl
theorem wd_1_34 : Cond.fieldLink RX3 45 "LineDealer$Net" "firstEnd" "[I" ∈ tbG := wm1 (k := 34) rfl rfl
theorem wd_1_35 : Cond.fieldLink RX5 45 "LineDealer$Net" "firstEnd" "[I" ∈ tbG := wm1 (k := 35) rfl rfl
theorem wd_1_36 : Cond.fieldLink RX0 67 "LineDealer$Net" "firstEnd" "[I" ∈ tbG := wm1 (k := 36) rfl rfl
theorem wd_1_37 : Cond.fieldLink RX4 15 "LineDealer$Net" "secondEnd" "[I" ∈ tbG := wm1 (k := 37) rfl rfl
theorem wd_1_38 : Cond.fieldLink RX1 34 "LineDealer$Net" "secondEnd" "[I" ∈ tbG := wm1 (k := 38) rfl rfl
theorem wd_1_39 : Cond.fieldLink RX3 48 "LineDealer$Net" "secondEnd" "[I" ∈ tbG := wm1 (k := 39) rfl rfl
theorem wd_1_40 : Cond.fieldLink RX5 48 "LineDealer$Net" "secondEnd" "[I" ∈ tbG := wm1 (k := 40) rfl rfl
theorem wd_1_41 : Cond.fieldLink RX0 70 "LineDealer$Net" "secondEnd" "[I" ∈ tbG := wm1 (k := 41) rfl rfl
theorem wd_1_42 : Cond.fieldLink RX4 18 "LineDealer$Net" "hostOf" "[I" ∈ tbG := wm1 (k := 42) rfl rfl
theorem wd_1_43 : Cond.fieldLink RX3 41 "LineDealer$Net" "hostOf" "[I" ∈ tbG := wm1 (k := 43) rfl rfl
theorem wd_1_44 : Cond.fieldLink RX6 124 "LineDealer$Net" "hostOf" "[I" ∈ tbG := wm1 (k := 44) rfl rfl
theorem wd_1_45 : Cond.fieldLink RX4 21 "LineDealer$Net" "loads" "[I" ∈ tbG := wm1 (k := 45) rfl rfl
theorem wd_1_46 : Cond.fieldLink RX3 58 "LineDealer$Net" "loads" "[I" ∈ tbG := wm1 (k := 46) rfl rfl
theorem wd_1_47 : Cond.fieldLink RX1 56 "LineDealer$Net" "loads" "[I" ∈ tbG := wm1 (k := 47) rfl rfl
theorem wd_1_48 : Cond.fieldLink RX6 127 "LineDealer$Net" "loads" "[I" ∈ tbG := wm1 (k := 48) rfl rfl
theorem wd_1_49 : Cond.fieldLink RX4 24 "LineDealer$Net" "degrees" "[I" ∈ tbG := wm1 (k := 49) rfl rfl
theorem wd_1_50 : Cond.fieldLink RX1 67 "LineDealer$Net" "degrees" "[I" ∈ tbG := wm1 (k := 50) rfl rfl
theorem wd_1_51 : Cond.fieldLink RX5 62 "LineDealer$Net" "degrees" "[I" ∈ tbG := wm1 (k := 51) rfl rfl
theorem wd_1_52 : Cond.fieldLink RX6 136 "LineDealer$Net" "degrees" "[I" ∈ tbG := wm1 (k := 52) rfl rfl
theorem wd_1_53 : Cond.fieldLink RX4 27 "LineDealer$Net" "copyBits" "[I" ∈ tbG := wm1 (k := 53) rfl rfl
theorem wd_1_54 : Cond.fieldLink RX6 130 "LineDealer$Net" "copyBits" "[I" ∈ tbG := wm1 (k := 54) rfl rfl
theorem wd_1_55 : Cond.fieldLink RX4 30 "LineDealer$Net" "linesAt" "[I" ∈ tbG := wm1 (k := 55) rfl rfl
theorem wd_1_56 : Cond.fieldLink RX4 33 "LineDealer$Net" "hosts" "I" ∈ tbG := wm1 (k := 56) rfl rfl
theorem wd_1_57 : Cond.fieldLink RX1 25 "LineDealer$Net" "hosts" "I" ∈ tbG := wm1 (k := 57) rfl rfl
theorem wd_1_58 : Cond.fieldLink RX2 29 "LineDealer$Net" "hosts" "I" ∈ tbG := wm1 (k := 58) rfl rfl
theorem wd_1_59 : Cond.fieldLink RX3 55 "LineDealer$Net" "hosts" "I" ∈ tbG := wm1 (k := 59) rfl rfl
theorem wd_1_60 : Cond.fieldLink RX0 51 "LineDealer$Net" "hosts" "I" ∈ tbG := wm1 (k := 60) rfl rfl
theorem wd_1_61 : Cond.fieldLink RX6 111 "LineDealer$Net" "hosts" "I" ∈ tbG := wm1 (k := 61) rfl rfl
theorem wd_1_62 : Cond.fieldLink RX6 72 "LineDealer$Net" "came" "I" ∈ tbG := wm1 (k := 62) rfl rfl
theorem wd_1_63 : Cond.fieldLink RX3 28 "LineDealer$Net" "came" "I" ∈ tbG := wm1 (k := 63) rfl rfl
theorem wd_1_64 : Cond.fieldLink RX4 37 "LineDealer$Net" "came" "I" ∈ tbG := wm1 (k := 64) rfl rfl
theorem wd_1_65 : Cond.fieldLink RX0 42 "LineDealer$Net" "came" "I" ∈ tbG := wm1 (k := 65) rfl rfl
theorem wd_1_66 : Cond.fieldLink RX5 36 "LineDealer$Net" "came" "I" ∈ tbG := wm1 (k := 66) rfl rfl
theorem wd_1_67 : Cond.fieldLink RX1 45 "LineDealer$Net" "live" "I" ∈ tbG := wm1 (k := 67) rfl rfl
theorem wd_1_68 : Cond.fieldLink RX4 44 "LineDealer$Net" "live" "I" ∈ tbG := wm1 (k := 68) rfl rfl
theorem wd_1_69 : Cond.fieldLink RX6 139 "LineDealer$Net" "live" "I" ∈ tbG := wm1 (k := 69) rfl rfl
theorem wd_1_70 : Cond.fieldLink RX5 55 "LineDealer$Net" "allCopies" "I" ∈ tbG := wm1 (k := 70) rfl rfl
theorem wd_1_71 : Cond.fieldLink RX4 57 "LineDealer$Net" "allCopies" "I" ∈ tbG := wm1 (k := 71) rfl rfl
theorem wd_1_72 : Cond.fieldLink RX6 133 "LineDealer$Net" "allCopies" "I" ∈ tbG := wm1 (k := 72) rfl rfl
theorem wd_1_103 : Cond.fieldLink RX1 21 "LineDealer$Dealing" "net" "LLineDealer$Net;" ∈ tbG := wm1 (k := 103) rfl rfl
theorem wd_1_104 : Cond.fieldLink RX1 9 "LineDealer$Dealing" "ruleNow" "I" ∈ tbG := wm1 (k := 104) rfl rfl
theorem wd_1_105 : Cond.fieldLink RX6 86 "LineDealer$Dealing" "ruleNow" "I" ∈ tbG := wm1 (k := 105) rfl rfl
theorem wd_1_106 : Cond.fieldLink RX1 15 "LineDealer$Dealing" "slack" "I" ∈ tbG := wm1 (k := 106) rfl rfl
theorem wd_1_107 : Cond.fieldLink RX6 92 "LineDealer$Dealing" "slack" "I" ∈ tbG := wm1 (k := 107) rfl rfl
theorem wd_1_108 : Cond.fieldLink RX1 18 "LineDealer$Dealing" "lean" "I" ∈ tbG := wm1 (k := 108) rfl rfl
theorem wd_1_109 : Cond.fieldLink RX6 95 "LineDealer$Dealing" "lean" "I" ∈ tbG := wm1 (k := 109) rfl rfl
theorem wd_1_125 : Cond.fieldLink RX3 9 "LineDealer$MoveSearch" "net" "LLineDealer$Net;" ∈ tbG := wm1 (k := 125) rfl rfl
theorem wd_1_126 : Cond.fieldLink RX3 15 "LineDealer$MoveSearch" "chosenLine" "I" ∈ tbG := wm1 (k := 126) rfl rfl
theorem wd_1_127 : Cond.fieldLink RX6 179 "LineDealer$MoveSearch" "chosenLine" "I" ∈ tbG := wm1 (k := 127) rfl rfl
theorem wd_1_128 : Cond.fieldLink RX3 19 "LineDealer$MoveSearch" "chosenHost" "I" ∈ tbG := wm1 (k := 128) rfl rfl
theorem wd_1_129 : Cond.fieldLink RX6 182 "LineDealer$MoveSearch" "chosenHost" "I" ∈ tbG := wm1 (k := 129) rfl rfl
theorem wd_1_130 : Cond.fieldLink RX3 22 "LineDealer$MoveSearch" "copiesChange" "I" ∈ tbG := wm1 (k := 130) rfl rfl
theorem wd_1_131 : Cond.fieldLink RX3 25 "LineDealer$MoveSearch" "squaresChange" "I" ∈ tbG := wm1 (k := 131) rfl rfl
theorem wd_1_149 : Cond.fieldLink RX0 21 "LineDealer$BestSearch" "net" "LLineDealer$Net;" ∈ tbG := wm1 (k := 149) rfl rfl
theorem wd_1_150 : Cond.fieldLink RX0 9 "LineDealer$BestSearch" "lines" "[I" ∈ tbG := wm1 (k := 150) rfl rfl
theorem wd_1_151 : Cond.fieldLink RX0 15 "LineDealer$BestSearch" "tryLoads" "[I" ∈ tbG := wm1 (k := 151) rfl rfl
theorem wd_1_152 : Cond.fieldLink RX0 18 "LineDealer$BestSearch" "tryBits" "[I" ∈ tbG := wm1 (k := 152) rfl rfl
theorem wd_1_153 : Cond.fieldLink RX0 32 "LineDealer$BestSearch" "size" "I" ∈ tbG := wm1 (k := 153) rfl rfl
theorem wd_1_154 : Cond.fieldLink RX0 28 "LineDealer$BestSearch" "limit" "I" ∈ tbG := wm1 (k := 154) rfl rfl
theorem wd_1_155 : Cond.fieldLink RX0 35 "LineDealer$BestSearch" "fewest" "I" ∈ tbG := wm1 (k := 155) rfl rfl
theorem wd_1_177 : Cond.fieldLink RX5 18 "LineDealer$Spreading" "net" "LLineDealer$Net;" ∈ tbG := wm1 (k := 177) rfl rfl
theorem wd_1_178 : Cond.fieldLink RX5 9 "LineDealer$Spreading" "values" "[I" ∈ tbG := wm1 (k := 178) rfl rfl
theorem wd_1_179 : Cond.fieldLink RX6 151 "LineDealer$Spreading" "values" "[I" ∈ tbG := wm1 (k := 179) rfl rfl
theorem wd_1_180 : Cond.fieldLink RX5 15 "LineDealer$Spreading" "before" "[I" ∈ tbG := wm1 (k := 180) rfl rfl
theorem wd_1_181 : Cond.fieldLink RX5 22 "LineDealer$Spreading" "rounds" "I" ∈ tbG := wm1 (k := 181) rfl rfl
theorem wd_1_182 : Cond.fieldLink RX6 154 "LineDealer$Spreading" "rounds" "I" ∈ tbG := wm1 (k := 182) rfl rfl
theorem wd_1_198 : Cond.fieldLink RX2 15 "LineDealer$Mastering" "net" "LLineDealer$Net;" ∈ tbG := wm1 (k := 198) rfl rfl
theorem wd_1_199 : Cond.fieldLink RX2 9 "LineDealer$Mastering" "mastered" "[I" ∈ tbG := wm1 (k := 199) rfl rfl
theorem wd_1_205 : Cond.fieldLink RX6 23 "LineDealer" "net" "LLineDealer$Net;" ∈ tbG := wm1 (k := 205) rfl rfl
theorem wd_1_206 : Cond.fieldLink RX6 32 "LineDealer" "dealing" "LLineDealer$Dealing;" ∈ tbG := wm1 (k := 206) rfl rfl
theorem wd_1_207 : Cond.fieldLink RX6 39 "LineDealer" "moveSearch" "LLineDealer$MoveSearch;" ∈ tbG := wm1 (k := 207) rfl rfl
theorem wd_1_208 : Cond.fieldLink RX6 46 "LineDealer" "bestSearch" "LLineDealer$BestSearch;" ∈ tbG := wm1 (k := 208) rfl rfl
theorem wd_1_209 : Cond.fieldLink RX6 53 "LineDealer" "spreading" "LLineDealer$Spreading;" ∈ tbG := wm1 (k := 209) rfl rfl
theorem wd_1_210 : Cond.fieldLink RX6 60 "LineDealer" "mastering" "LLineDealer$Mastering;" ∈ tbG := wm1 (k := 210) rfl rfl
theorem wd_1_211 : Cond.fieldLink RX6 64 "LineDealer" "waiting" "[I" ∈ tbG := wm1 (k := 211) rfl rfl
theorem wd_1_212 : Cond.fieldLink RX6 98 "LineDealer" "windowSize" "I" ∈ tbG := wm1 (k := 212) rfl rfl
theorem wd_1_213 : Cond.fieldLink RX6 108 "LineDealer" "movesEver" "I" ∈ tbG := wm1 (k := 213) rfl rfl
theorem wd_1_234 : Cond.instanceMethod yX6_line ∈ tbG := wm1 (k := 234) rfl rfl
theorem wd_1_235 : Cond.selects RX6 yX6_line yX6_line ∈ tbG := wm1 (k := 235) rfl rfl
theorem wd_1_236 : Cond.code yX6_line cX6_line 4 (some .int) ∈ tbG := wm1 (k := 236) rfl rfl
theorem wd_1_237 : Cond.methodLink RX6 68 yX6_isPoint ∈ tbG := wm1 (k := 237) rfl rfl
theorem wd_1_238 : Cond.static yX6_isPoint ∈ tbG := wm1 (k := 238) rfl rfl
theorem wd_1_239 : Cond.code yX6_isPoint cX6_isPoint 1 (some .boolean) ∈ tbG := wm1 (k := 239) rfl rfl
theorem wd_2_0 : Cond.methodLink RX6 76 yX4_addLine ∈ tbG := wm2 (k := 0) rfl rfl
theorem wd_2_1 : Cond.instanceMethod yX4_addLine ∈ tbG := wm2 (k := 1) rfl rfl
theorem wd_2_2 : Cond.selects RX4 yX4_addLine yX4_addLine ∈ tbG := wm2 (k := 2) rfl rfl
theorem wd_2_3 : Cond.code yX4_addLine cX4_addLine 4 (some .int) ∈ tbG := wm2 (k := 3) rfl rfl
theorem wd_2_4 : Cond.methodLink RX6 79 yX1_dealLine ∈ tbG := wm2 (k := 4) rfl rfl
theorem wd_2_5 : Cond.instanceMethod yX1_dealLine ∈ tbG := wm2 (k := 5) rfl rfl
theorem wd_2_6 : Cond.selects RX1 yX1_dealLine yX1_dealLine ∈ tbG := wm2 (k := 6) rfl rfl
theorem wd_2_7 : Cond.code yX1_dealLine cX1_dealLine 3 (some .int) ∈ tbG := wm2 (k := 7) rfl rfl
theorem wd_2_8 : Cond.methodLink RX1 37 yX1_chooseHost ∈ tbG := wm2 (k := 8) rfl rfl
theorem wd_2_10 : Cond.instanceMethod yX1_chooseHost ∈ tbG := wm2 (k := 10) rfl rfl
theorem wd_2_11 : Cond.code yX1_chooseHost cX1_chooseHost 9 (some .int) ∈ tbG := wm2 (k := 11) rfl rfl
theorem wd_2_12 : Cond.methodLink RX1 48 yX1_roomFor ∈ tbG := wm2 (k := 12) rfl rfl
theorem wd_2_13 : Cond.instanceMethod yX1_roomFor ∈ tbG := wm2 (k := 13) rfl rfl
theorem wd_2_14 : Cond.selects RX1 yX1_roomFor yX1_roomFor ∈ tbG := wm2 (k := 14) rfl rfl
theorem wd_2_15 : Cond.code yX1_roomFor cX1_roomFor 3 (some .int) ∈ tbG := wm2 (k := 15) rfl rfl
theorem wd_2_16 : Cond.methodLink RX1 52 yX4_greatestLoad ∈ tbG := wm2 (k := 16) rfl rfl
theorem wd_2_17 : Cond.instanceMethod yX4_greatestLoad ∈ tbG := wm2 (k := 17) rfl rfl
theorem wd_2_18 : Cond.selects RX4 yX4_greatestLoad yX4_greatestLoad ∈ tbG := wm2 (k := 18) rfl rfl
theorem wd_2_19 : Cond.code yX4_greatestLoad cX4_greatestLoad 3 (some .int) ∈ tbG := wm2 (k := 19) rfl rfl
theorem wd_2_20 : Cond.methodLink RX4 66 Lib.Math.max.name ∈ tbG := wm2 (k := 20) rfl rfl
theorem wd_2_21 : Cond.methodLink RX1 59 yX1_scoreOf ∈ tbG := wm2 (k := 21) rfl rfl
theorem wd_2_23 : Cond.instanceMethod yX1_scoreOf ∈ tbG := wm2 (k := 23) rfl rfl
theorem wd_2_24 : Cond.code yX1_scoreOf cX1_scoreOf 5 (some .int) ∈ tbG := wm2 (k := 24) rfl rfl
theorem wd_2_25 : Cond.methodLink RX1 63 yX1_scoreOfCopies ∈ tbG := wm2 (k := 25) rfl rfl
theorem wd_2_27 : Cond.instanceMethod yX1_scoreOfCopies ∈ tbG := wm2 (k := 27) rfl rfl
theorem wd_2_28 : Cond.code yX1_scoreOfCopies cX1_scoreOfCopies 8 (some .int) ∈ tbG := wm2 (k := 28) rfl rfl
theorem wd_2_29 : Cond.methodLink RX1 70 yX4_hasCopy ∈ tbG := wm2 (k := 29) rfl rfl
theorem wd_2_30 : Cond.instanceMethod yX4_hasCopy ∈ tbG := wm2 (k := 30) rfl rfl
theorem wd_2_31 : Cond.selects RX4 yX4_hasCopy yX4_hasCopy ∈ tbG := wm2 (k := 31) rfl rfl
theorem wd_2_32 : Cond.code yX4_hasCopy cX4_hasCopy 3 (some .boolean) ∈ tbG := wm2 (k := 32) rfl rfl
theorem wd_2_33 : Cond.methodLink RX1 41 yX4_putOn ∈ tbG := wm2 (k := 33) rfl rfl
theorem wd_2_34 : Cond.instanceMethod yX4_putOn ∈ tbG := wm2 (k := 34) rfl rfl
theorem wd_2_35 : Cond.selects RX4 yX4_putOn yX4_putOn ∈ tbG := wm2 (k := 35) rfl rfl
theorem wd_2_36 : Cond.code yX4_putOn cX4_putOn 3 none ∈ tbG := wm2 (k := 36) rfl rfl
theorem wd_2_37 : Cond.methodLink RX4 40 yX4_hasHost ∈ tbG := wm2 (k := 37) rfl rfl
theorem wd_2_38 : Cond.instanceMethod yX4_hasHost ∈ tbG := wm2 (k := 38) rfl rfl
theorem wd_2_39 : Cond.selects RX4 yX4_hasHost yX4_hasHost ∈ tbG := wm2 (k := 39) rfl rfl
theorem wd_2_40 : Cond.code yX4_hasHost cX4_hasHost 2 (some .boolean) ∈ tbG := wm2 (k := 40) rfl rfl
theorem wd_2_41 : Cond.methodLink RX4 47 yX4_putEnd ∈ tbG := wm2 (k := 41) rfl rfl
theorem wd_2_43 : Cond.instanceMethod yX4_putEnd ∈ tbG := wm2 (k := 43) rfl rfl
theorem wd_2_44 : Cond.code yX4_putEnd cX4_putEnd 3 none ∈ tbG := wm2 (k := 44) rfl rfl
theorem wd_2_45 : Cond.methodLink RX6 83 yX6_keepWindow ∈ tbG := wm2 (k := 45) rfl rfl
theorem wd_2_47 : Cond.instanceMethod yX6_keepWindow ∈ tbG := wm2 (k := 47) rfl rfl
theorem wd_2_48 : Cond.code yX6_keepWindow cX6_keepWindow 2 none ∈ tbG := wm2 (k := 48) rfl rfl
theorem wd_2_49 : Cond.methodLink RX6 101 yX4_takeOff ∈ tbG := wm2 (k := 49) rfl rfl
theorem wd_2_50 : Cond.instanceMethod yX4_takeOff ∈ tbG := wm2 (k := 50) rfl rfl
theorem wd_2_51 : Cond.selects RX4 yX4_takeOff yX4_takeOff ∈ tbG := wm2 (k := 51) rfl rfl
theorem wd_2_52 : Cond.code yX4_takeOff cX4_takeOff 3 (some .boolean) ∈ tbG := wm2 (k := 52) rfl rfl
theorem wd_2_53 : Cond.methodLink RX4 51 yX4_isLive ∈ tbG := wm2 (k := 53) rfl rfl
theorem wd_2_54 : Cond.instanceMethod yX4_isLive ∈ tbG := wm2 (k := 54) rfl rfl
theorem wd_2_55 : Cond.selects RX4 yX4_isLive yX4_isLive ∈ tbG := wm2 (k := 55) rfl rfl
theorem wd_2_56 : Cond.code yX4_isLive cX4_isLive 2 (some .boolean) ∈ tbG := wm2 (k := 56) rfl rfl
theorem wd_2_57 : Cond.methodLink RX4 54 yX4_takeEnd ∈ tbG := wm2 (k := 57) rfl rfl
theorem wd_2_59 : Cond.instanceMethod yX4_takeEnd ∈ tbG := wm2 (k := 59) rfl rfl
theorem wd_2_60 : Cond.code yX4_takeEnd cX4_takeEnd 3 none ∈ tbG := wm2 (k := 60) rfl rfl
theorem wd_2_62 : Cond.instanceMethod yX6_rule ∈ tbG := wm2 (k := 62) rfl rfl
theorem wd_2_63 : Cond.selects RX6 yX6_rule yX6_rule ∈ tbG := wm2 (k := 63) rfl rfl
theorem wd_2_64 : Cond.code yX6_rule cX6_rule 2 (some .boolean) ∈ tbG := wm2 (k := 64) rfl rfl
theorem wd_2_66 : Cond.instanceMethod yX6_weights ∈ tbG := wm2 (k := 66) rfl rfl
theorem wd_2_67 : Cond.selects RX6 yX6_weights yX6_weights ∈ tbG := wm2 (k := 67) rfl rfl
theorem wd_2_68 : Cond.code yX6_weights cX6_weights 3 (some .boolean) ∈ tbG := wm2 (k := 68) rfl rfl
theorem wd_2_69 : Cond.methodLink RX6 89 yX6_isWeight ∈ tbG := wm2 (k := 69) rfl rfl
theorem wd_2_70 : Cond.static yX6_isWeight ∈ tbG := wm2 (k := 70) rfl rfl
theorem wd_2_71 : Cond.code yX6_isWeight cX6_isWeight 1 (some .boolean) ∈ tbG := wm2 (k := 71) rfl rfl
theorem wd_2_73 : Cond.instanceMethod yX6_window ∈ tbG := wm2 (k := 73) rfl rfl
theorem wd_2_74 : Cond.selects RX6 yX6_window yX6_window ∈ tbG := wm2 (k := 74) rfl rfl
theorem wd_2_75 : Cond.code yX6_window cX6_window 2 (some .boolean) ∈ tbG := wm2 (k := 75) rfl rfl
theorem wd_2_77 : Cond.instanceMethod yX6_leave ∈ tbG := wm2 (k := 77) rfl rfl
theorem wd_2_78 : Cond.selects RX6 yX6_leave yX6_leave ∈ tbG := wm2 (k := 78) rfl rfl
theorem wd_2_79 : Cond.code yX6_leave cX6_leave 2 (some .boolean) ∈ tbG := wm2 (k := 79) rfl rfl
theorem wd_2_81 : Cond.instanceMethod yX6_better ∈ tbG := wm2 (k := 81) rfl rfl
theorem wd_2_82 : Cond.selects RX6 yX6_better yX6_better ∈ tbG := wm2 (k := 82) rfl rfl
theorem wd_2_83 : Cond.code yX6_better cX6_better 3 (some .int) ∈ tbG := wm2 (k := 83) rfl rfl
theorem wd_2_84 : Cond.methodLink RX6 104 yX6_makeBetterMove ∈ tbG := wm2 (k := 84) rfl rfl
theorem wd_2_86 : Cond.instanceMethod yX6_makeBetterMove ∈ tbG := wm2 (k := 86) rfl rfl
theorem wd_2_87 : Cond.code yX6_makeBetterMove cX6_makeBetterMove 1 (some .boolean) ∈ tbG := wm2 (k := 87) rfl rfl
theorem wd_2_88 : Cond.methodLink RX6 142 yX1_roomFor ∈ tbG := wm2 (k := 88) rfl rfl
theorem wd_2_89 : Cond.methodLink RX6 176 yX3_findMove ∈ tbG := wm2 (k := 89) rfl rfl
theorem wd_2_90 : Cond.instanceMethod yX3_findMove ∈ tbG := wm2 (k := 90) rfl rfl
theorem wd_2_91 : Cond.selects RX3 yX3_findMove yX3_findMove ∈ tbG := wm2 (k := 91) rfl rfl
theorem wd_2_92 : Cond.code yX3_findMove cX3_findMove 3 (some .boolean) ∈ tbG := wm2 (k := 92) rfl rfl
theorem wd_2_93 : Cond.methodLink RX3 33 yX4_isLive ∈ tbG := wm2 (k := 93) rfl rfl
theorem wd_2_94 : Cond.methodLink RX3 37 yX3_weighMovesOf ∈ tbG := wm2 (k := 94) rfl rfl
theorem wd_2_96 : Cond.instanceMethod yX3_weighMovesOf ∈ tbG := wm2 (k := 96) rfl rfl
theorem wd_2_97 : Cond.code yX3_weighMovesOf cX3_weighMovesOf 10 none ∈ tbG := wm2 (k := 97) rfl rfl
theorem wd_2_98 : Cond.methodLink RX3 51 yX4_hasOneLineAt ∈ tbG := wm2 (k := 98) rfl rfl
theorem wd_2_99 : Cond.instanceMethod yX4_hasOneLineAt ∈ tbG := wm2 (k := 99) rfl rfl
theorem wd_2_100 : Cond.selects RX4 yX4_hasOneLineAt yX4_hasOneLineAt ∈ tbG := wm2 (k := 100) rfl rfl
theorem wd_2_101 : Cond.code yX4_hasOneLineAt cX4_hasOneLineAt 3 (some .boolean) ∈ tbG := wm2 (k := 101) rfl rfl
theorem wd_2_102 : Cond.methodLink RX3 61 yX4_hasCopy ∈ tbG := wm2 (k := 102) rfl rfl
theorem wd_2_103 : Cond.methodLink RX3 64 yX3_keepIfBetter ∈ tbG := wm2 (k := 103) rfl rfl
theorem wd_2_105 : Cond.instanceMethod yX3_keepIfBetter ∈ tbG := wm2 (k := 105) rfl rfl
theorem wd_2_106 : Cond.code yX3_keepIfBetter cX3_keepIfBetter 5 none ∈ tbG := wm2 (k := 106) rfl rfl
theorem wd_2_107 : Cond.methodLink RX6 185 yX4_putOn ∈ tbG := wm2 (k := 107) rfl rfl
theorem wd_2_109 : Cond.instanceMethod yX6_more ∈ tbG := wm2 (k := 109) rfl rfl
theorem wd_2_110 : Cond.selects RX6 yX6_more yX6_more ∈ tbG := wm2 (k := 110) rfl rfl
theorem wd_2_111 : Cond.code yX6_more cX6_more 1 (some .int) ∈ tbG := wm2 (k := 111) rfl rfl
theorem wd_2_113 : Cond.instanceMethod yX6_less ∈ tbG := wm2 (k := 113) rfl rfl
theorem wd_2_114 : Cond.selects RX6 yX6_less yX6_less ∈ tbG := wm2 (k := 114) rfl rfl
theorem wd_2_115 : Cond.code yX6_less cX6_less 4 (some .int) ∈ tbG := wm2 (k := 115) rfl rfl
theorem wd_2_116 : Cond.methodLink RX6 114 yX4_hasHost ∈ tbG := wm2 (k := 116) rfl rfl
theorem wd_2_117 : Cond.methodLink RX6 117 yX4_dropHost ∈ tbG := wm2 (k := 117) rfl rfl
theorem wd_2_118 : Cond.instanceMethod yX4_dropHost ∈ tbG := wm2 (k := 118) rfl rfl
theorem wd_2_119 : Cond.selects RX4 yX4_dropHost yX4_dropHost ∈ tbG := wm2 (k := 119) rfl rfl
theorem wd_2_120 : Cond.code yX4_dropHost cX4_dropHost 6 (some .int) ∈ tbG := wm2 (k := 120) rfl rfl
theorem wd_2_121 : Cond.methodLink RX4 60 yX4_takeOff ∈ tbG := wm2 (k := 121) rfl rfl
theorem wd_2_122 : Cond.methodLink RX4 63 yX4_putOn ∈ tbG := wm2 (k := 122) rfl rfl
theorem wd_2_124 : Cond.instanceMethod yX6_host ∈ tbG := wm2 (k := 124) rfl rfl
theorem wd_2_125 : Cond.selects RX6 yX6_host yX6_host ∈ tbG := wm2 (k := 125) rfl rfl
theorem wd_2_126 : Cond.code yX6_host cX6_host 2 (some .int) ∈ tbG := wm2 (k := 126) rfl rfl
theorem wd_2_127 : Cond.methodLink RX6 121 yX4_isLive ∈ tbG := wm2 (k := 127) rfl rfl
theorem wd_2_129 : Cond.instanceMethod yX6_load ∈ tbG := wm2 (k := 129) rfl rfl
theorem wd_2_130 : Cond.selects RX6 yX6_load yX6_load ∈ tbG := wm2 (k := 130) rfl rfl
theorem wd_2_131 : Cond.code yX6_load cX6_load 2 (some .int) ∈ tbG := wm2 (k := 131) rfl rfl
theorem wd_2_133 : Cond.instanceMethod yX6_copies ∈ tbG := wm2 (k := 133) rfl rfl
theorem wd_2_134 : Cond.selects RX6 yX6_copies yX6_copies ∈ tbG := wm2 (k := 134) rfl rfl
theorem wd_2_135 : Cond.code yX6_copies cX6_copies 2 (some .int) ∈ tbG := wm2 (k := 135) rfl rfl
theorem wd_2_137 : Cond.instanceMethod yX6_all ∈ tbG := wm2 (k := 137) rfl rfl
theorem wd_2_138 : Cond.selects RX6 yX6_all yX6_all ∈ tbG := wm2 (k := 138) rfl rfl
theorem wd_2_139 : Cond.code yX6_all cX6_all 1 (some .int) ∈ tbG := wm2 (k := 139) rfl rfl
theorem wd_2_141 : Cond.instanceMethod yX6_degree ∈ tbG := wm2 (k := 141) rfl rfl
theorem wd_2_142 : Cond.selects RX6 yX6_degree yX6_degree ∈ tbG := wm2 (k := 142) rfl rfl
theorem wd_2_143 : Cond.code yX6_degree cX6_degree 2 (some .int) ∈ tbG := wm2 (k := 143) rfl rfl
theorem wd_2_145 : Cond.instanceMethod yX6_room ∈ tbG := wm2 (k := 145) rfl rfl
theorem wd_2_146 : Cond.selects RX6 yX6_room yX6_room ∈ tbG := wm2 (k := 146) rfl rfl
theorem wd_2_147 : Cond.code yX6_room cX6_room 1 (some .int) ∈ tbG := wm2 (k := 147) rfl rfl
theorem wd_2_149 : Cond.instanceMethod yX6_best ∈ tbG := wm2 (k := 149) rfl rfl
theorem wd_2_150 : Cond.selects RX6 yX6_best yX6_best ∈ tbG := wm2 (k := 150) rfl rfl
theorem wd_2_151 : Cond.code yX6_best cX6_best 1 (some .int) ∈ tbG := wm2 (k := 151) rfl rfl
theorem wd_2_152 : Cond.methodLink RX6 145 yX0_fewestCopies ∈ tbG := wm2 (k := 152) rfl rfl
theorem wd_2_153 : Cond.instanceMethod yX0_fewestCopies ∈ tbG := wm2 (k := 153) rfl rfl
theorem wd_2_154 : Cond.selects RX0 yX0_fewestCopies yX0_fewestCopies ∈ tbG := wm2 (k := 154) rfl rfl
theorem wd_2_155 : Cond.code yX0_fewestCopies cX0_fewestCopies 2 (some .int) ∈ tbG := wm2 (k := 155) rfl rfl
theorem wd_2_156 : Cond.methodLink RX0 25 yX0_collectLines ∈ tbG := wm2 (k := 156) rfl rfl
theorem wd_2_158 : Cond.instanceMethod yX0_collectLines ∈ tbG := wm2 (k := 158) rfl rfl
theorem wd_2_159 : Cond.code yX0_collectLines cX0_collectLines 2 none ∈ tbG := wm2 (k := 159) rfl rfl
theorem wd_2_160 : Cond.methodLink RX0 47 yX4_isLive ∈ tbG := wm2 (k := 160) rfl rfl
theorem wd_2_161 : Cond.methodLink RX0 38 yX0_dealFrom ∈ tbG := wm2 (k := 161) rfl rfl
theorem wd_2_163 : Cond.instanceMethod yX0_dealFrom ∈ tbG := wm2 (k := 163) rfl rfl
theorem wd_2_164 : Cond.code yX0_dealFrom cX0_dealFrom 6 none ∈ tbG := wm2 (k := 164) rfl rfl
theorem wd_2_165 : Cond.methodLink RX0 54 Lib.Math.min.name ∈ tbG := wm2 (k := 165) rfl rfl
theorem wd_2_166 : Cond.methodLink RX0 60 Lib.Math.max.name ∈ tbG := wm2 (k := 166) rfl rfl
theorem wd_2_167 : Cond.methodLink RX0 63 yX0_tryHost ∈ tbG := wm2 (k := 167) rfl rfl
theorem wd_2_169 : Cond.instanceMethod yX0_tryHost ∈ tbG := wm2 (k := 169) rfl rfl
theorem wd_2_170 : Cond.code yX0_tryHost cX0_tryHost 10 none ∈ tbG := wm2 (k := 170) rfl rfl
theorem wd_2_172 : Cond.instanceMethod yX6_part ∈ tbG := wm2 (k := 172) rfl rfl
theorem wd_2_173 : Cond.selects RX6 yX6_part yX6_part ∈ tbG := wm2 (k := 173) rfl rfl
theorem wd_2_174 : Cond.code yX6_part cX6_part 2 (some .int) ∈ tbG := wm2 (k := 174) rfl rfl
theorem wd_2_175 : Cond.methodLink RX6 148 yX5_spread ∈ tbG := wm2 (k := 175) rfl rfl
theorem wd_2_176 : Cond.instanceMethod yX5_spread ∈ tbG := wm2 (k := 176) rfl rfl
theorem wd_2_177 : Cond.selects RX5 yX5_spread yX5_spread ∈ tbG := wm2 (k := 177) rfl rfl
theorem wd_2_178 : Cond.code yX5_spread cX5_spread 2 none ∈ tbG := wm2 (k := 178) rfl rfl
theorem wd_2_179 : Cond.methodLink RX5 26 yX5_goOneRound ∈ tbG := wm2 (k := 179) rfl rfl
theorem wd_2_181 : Cond.instanceMethod yX5_goOneRound ∈ tbG := wm2 (k := 181) rfl rfl
theorem wd_2_182 : Cond.code yX5_goOneRound cX5_goOneRound 5 (some .boolean) ∈ tbG := wm2 (k := 182) rfl rfl
theorem wd_2_183 : Cond.methodLink RX5 30 arraycopyName ∈ tbG := wm2 (k := 183) rfl rfl
theorem wd_2_184 : Cond.static arraycopyName ∈ tbG := wm2 (k := 184) rfl rfl
theorem wd_2_185 : Cond.native arraycopyName ∈ tbG := wm2 (k := 185) rfl rfl
theorem wd_2_186 : Cond.methodLink RX5 41 yX4_isLive ∈ tbG := wm2 (k := 186) rfl rfl
theorem wd_2_187 : Cond.methodLink RX5 51 yX5_lowerTo ∈ tbG := wm2 (k := 187) rfl rfl
theorem wd_2_189 : Cond.instanceMethod yX5_lowerTo ∈ tbG := wm2 (k := 189) rfl rfl
theorem wd_2_190 : Cond.code yX5_lowerTo cX5_lowerTo 3 (some .boolean) ∈ tbG := wm2 (k := 190) rfl rfl
theorem wd_2_192 : Cond.instanceMethod yX6_run ∈ tbG := wm2 (k := 192) rfl rfl
theorem wd_2_193 : Cond.selects RX6 yX6_run yX6_run ∈ tbG := wm2 (k := 193) rfl rfl
theorem wd_2_194 : Cond.code yX6_run cX6_run 2 (some .int) ∈ tbG := wm2 (k := 194) rfl rfl
theorem wd_2_195 : Cond.methodLink RX6 157 yX5_letters ∈ tbG := wm2 (k := 195) rfl rfl
theorem wd_2_196 : Cond.instanceMethod yX5_letters ∈ tbG := wm2 (k := 196) rfl rfl
theorem wd_2_197 : Cond.selects RX5 yX5_letters yX5_letters ∈ tbG := wm2 (k := 197) rfl rfl
theorem wd_2_198 : Cond.code yX5_letters cX5_letters 2 (some .int) ∈ tbG := wm2 (k := 198) rfl rfl
theorem wd_2_199 : Cond.methodLink RX5 58 yX4_pointsWithCopies ∈ tbG := wm2 (k := 199) rfl rfl
theorem wd_2_200 : Cond.instanceMethod yX4_pointsWithCopies ∈ tbG := wm2 (k := 200) rfl rfl
theorem wd_2_201 : Cond.selects RX4 yX4_pointsWithCopies yX4_pointsWithCopies ∈ tbG := wm2 (k := 201) rfl rfl
theorem wd_2_202 : Cond.code yX4_pointsWithCopies cX4_pointsWithCopies 3 (some .int) ∈ tbG := wm2 (k := 202) rfl rfl
theorem wd_2_203 : Cond.methodLink RX6 161 yX5_partsWithLines ∈ tbG := wm2 (k := 203) rfl rfl
theorem wd_2_204 : Cond.instanceMethod yX5_partsWithLines ∈ tbG := wm2 (k := 204) rfl rfl
theorem wd_2_205 : Cond.selects RX5 yX5_partsWithLines yX5_partsWithLines ∈ tbG := wm2 (k := 205) rfl rfl
theorem wd_2_206 : Cond.code yX5_partsWithLines cX5_partsWithLines 3 (some .int) ∈ tbG := wm2 (k := 206) rfl rfl
theorem wd_2_208 : Cond.instanceMethod yX6_master ∈ tbG := wm2 (k := 208) rfl rfl
theorem wd_2_209 : Cond.selects RX6 yX6_master yX6_master ∈ tbG := wm2 (k := 209) rfl rfl
theorem wd_2_210 : Cond.code yX6_master cX6_master 2 (some .int) ∈ tbG := wm2 (k := 210) rfl rfl
theorem wd_2_211 : Cond.methodLink RX6 164 yX2_masterOf ∈ tbG := wm2 (k := 211) rfl rfl
theorem wd_2_212 : Cond.instanceMethod yX2_masterOf ∈ tbG := wm2 (k := 212) rfl rfl
theorem wd_2_213 : Cond.selects RX2 yX2_masterOf yX2_masterOf ∈ tbG := wm2 (k := 213) rfl rfl
theorem wd_2_214 : Cond.code yX2_masterOf cX2_masterOf 4 (some .int) ∈ tbG := wm2 (k := 214) rfl rfl
theorem wd_2_215 : Cond.methodLink RX2 19 yJ7_fill_53178 ∈ tbG := wm2 (k := 215) rfl rfl
theorem wd_2_216 : Cond.static yJ7_fill_53178 ∈ tbG := wm2 (k := 216) rfl rfl
theorem wd_2_217 : Cond.code yJ7_fill_53178 cJ7_fill_53178 4 none ∈ tbG := wm2 (k := 217) rfl rfl
theorem wd_2_218 : Cond.methodLink RX2 25 yX2_leastMasterFor ∈ tbG := wm2 (k := 218) rfl rfl
theorem wd_2_220 : Cond.instanceMethod yX2_leastMasterFor ∈ tbG := wm2 (k := 220) rfl rfl
theorem wd_2_221 : Cond.code yX2_leastMasterFor cX2_leastMasterFor 4 (some .int) ∈ tbG := wm2 (k := 221) rfl rfl
theorem wd_2_222 : Cond.methodLink RX2 35 yX4_hasCopy ∈ tbG := wm2 (k := 222) rfl rfl
theorem wd_2_224 : Cond.instanceMethod yX6_count ∈ tbG := wm2 (k := 224) rfl rfl
theorem wd_2_225 : Cond.selects RX6 yX6_count yX6_count ∈ tbG := wm2 (k := 225) rfl rfl
theorem wd_2_226 : Cond.code yX6_count cX6_count 2 (some .int) ∈ tbG := wm2 (k := 226) rfl rfl
theorem wd_2_227 : Cond.methodLink RX6 167 yX4_greatestLoad ∈ tbG := wm2 (k := 227) rfl rfl
theorem wd_2_228 : Cond.methodLink RX6 170 yX4_leastLoad ∈ tbG := wm2 (k := 228) rfl rfl
theorem wd_2_229 : Cond.instanceMethod yX4_leastLoad ∈ tbG := wm2 (k := 229) rfl rfl
theorem wd_2_230 : Cond.selects RX4 yX4_leastLoad yX4_leastLoad ∈ tbG := wm2 (k := 230) rfl rfl
theorem wd_2_231 : Cond.code yX4_leastLoad cX4_leastLoad 3 (some .int) ∈ tbG := wm2 (k := 231) rfl rfl
theorem wd_2_232 : Cond.methodLink RX4 72 Lib.Math.min.name ∈ tbG := wm2 (k := 232) rfl rfl
theorem wd_2_233 : Cond.methodLink RX6 173 yX4_pointsWithCopies ∈ tbG := wm2 (k := 233) rfl rfl
theorem wd_3_3 : Cond.fieldLink RX7 54 "LineDealerModel" "hosts" "I" ∈ tbG := wm3 (k := 3) rfl rfl
theorem wd_3_4 : Cond.fieldLink RX7 61 "LineDealerModel" "lines" "I" ∈ tbG := wm3 (k := 4) rfl rfl
theorem wd_3_5 : Cond.fieldLink RX7 9 "LineDealerModel" "one" "[I" ∈ tbG := wm3 (k := 5) rfl rfl
theorem wd_3_6 : Cond.fieldLink RX7 13 "LineDealerModel" "other" "[I" ∈ tbG := wm3 (k := 6) rfl rfl
theorem wd_3_7 : Cond.fieldLink RX7 16 "LineDealerModel" "hostOf" "[I" ∈ tbG := wm3 (k := 7) rfl rfl
theorem wd_3_8 : Cond.fieldLink RX7 19 "LineDealerModel" "loads" "[I" ∈ tbG := wm3 (k := 8) rfl rfl
theorem wd_3_9 : Cond.fieldLink RX7 22 "LineDealerModel" "ends" "[I" ∈ tbG := wm3 (k := 9) rfl rfl
theorem wd_3_10 : Cond.fieldLink RX7 64 "LineDealerModel" "live" "I" ∈ tbG := wm3 (k := 10) rfl rfl
theorem wd_3_11 : Cond.fieldLink RX7 96 "LineDealerModel" "window" "I" ∈ tbG := wm3 (k := 11) rfl rfl
theorem wd_3_12 : Cond.fieldLink RX7 25 "LineDealerModel" "slack" "I" ∈ tbG := wm3 (k := 12) rfl rfl
theorem wd_3_13 : Cond.fieldLink RX7 29 "LineDealerModel" "lean" "I" ∈ tbG := wm3 (k := 13) rfl rfl
theorem wd_3_14 : Cond.fieldLink RX7 32 "LineDealerModel" "rule" "I" ∈ tbG := wm3 (k := 14) rfl rfl
theorem wd_3_15 : Cond.fieldLink RX7 112 "LineDealerModel" "moves" "I" ∈ tbG := wm3 (k := 15) rfl rfl
theorem wd_3_16 : Cond.fieldLink RX7 35 "LineDealerModel" "isAnew" "[Z" ∈ tbG := wm3 (k := 16) rfl rfl
theorem wd_3_17 : Cond.fieldLink RX7 39 "LineDealerModel" "load" "[I" ∈ tbG := wm3 (k := 17) rfl rfl
theorem wd_3_18 : Cond.fieldLink RX7 42 "LineDealerModel" "at" "[I" ∈ tbG := wm3 (k := 18) rfl rfl
theorem wd_3_19 : Cond.fieldLink RX7 45 "LineDealerModel" "value" "[I" ∈ tbG := wm3 (k := 19) rfl rfl
theorem wd_3_20 : Cond.fieldLink RX7 48 "LineDealerModel" "then" "[I" ∈ tbG := wm3 (k := 20) rfl rfl
theorem wd_3_21 : Cond.fieldLink RX7 51 "LineDealerModel" "of" "[I" ∈ tbG := wm3 (k := 21) rfl rfl
theorem wd_3_63 : Cond.instanceMethod yX7_line ∈ tbG := wm3 (k := 63) rfl rfl
theorem wd_3_64 : Cond.selects RX7 yX7_line yX7_line ∈ tbG := wm3 (k := 64) rfl rfl
theorem wd_3_65 : Cond.code yX7_line cX7_line 4 (some .int) ∈ tbG := wm3 (k := 65) rfl rfl
theorem wd_3_66 : Cond.methodLink RX7 86 yX7_isPoint ∈ tbG := wm3 (k := 66) rfl rfl
theorem wd_3_67 : Cond.static yX7_isPoint ∈ tbG := wm3 (k := 67) rfl rfl
theorem wd_3_68 : Cond.code yX7_isPoint cX7_isPoint 1 (some .boolean) ∈ tbG := wm3 (k := 68) rfl rfl
theorem wd_3_69 : Cond.methodLink RX7 57 yX7_in ∈ tbG := wm3 (k := 69) rfl rfl
theorem wd_3_70 : Cond.static yX7_in ∈ tbG := wm3 (k := 70) rfl rfl
theorem wd_3_71 : Cond.code yX7_in cX7_in 3 (some .boolean) ∈ tbG := wm3 (k := 71) rfl rfl
theorem wd_3_72 : Cond.methodLink RX7 90 yX7_deals ∈ tbG := wm3 (k := 72) rfl rfl
theorem wd_3_74 : Cond.instanceMethod yX7_deals ∈ tbG := wm3 (k := 74) rfl rfl
theorem wd_3_75 : Cond.code yX7_deals cX7_deals 7 (some .int) ∈ tbG := wm3 (k := 75) rfl rfl
theorem wd_3_76 : Cond.methodLink RX7 75 yX7_roomFor ∈ tbG := wm3 (k := 76) rfl rfl
theorem wd_3_78 : Cond.instanceMethod yX7_roomFor ∈ tbG := wm3 (k := 78) rfl rfl
theorem wd_3_79 : Cond.code yX7_roomFor cX7_roomFor 2 (some .int) ∈ tbG := wm3 (k := 79) rfl rfl
theorem wd_3_80 : Cond.methodLink RX7 78 yX7_scoreOf ∈ tbG := wm3 (k := 80) rfl rfl
theorem wd_3_82 : Cond.instanceMethod yX7_scoreOf ∈ tbG := wm3 (k := 82) rfl rfl
theorem wd_3_83 : Cond.code yX7_scoreOf cX7_scoreOf 8 (some .int) ∈ tbG := wm3 (k := 83) rfl rfl
theorem wd_3_84 : Cond.methodLink RX7 67 yX7_greatest ∈ tbG := wm3 (k := 84) rfl rfl
theorem wd_3_86 : Cond.instanceMethod yX7_greatest ∈ tbG := wm3 (k := 86) rfl rfl
theorem wd_3_87 : Cond.code yX7_greatest cX7_greatest 3 (some .int) ∈ tbG := wm3 (k := 87) rfl rfl
theorem wd_3_88 : Cond.methodLink RX7 71 yX7_degree ∈ tbG := wm3 (k := 88) rfl rfl
theorem wd_3_89 : Cond.instanceMethod yX7_degree ∈ tbG := wm3 (k := 89) rfl rfl
theorem wd_3_90 : Cond.selects RX7 yX7_degree yX7_degree ∈ tbG := wm3 (k := 90) rfl rfl
theorem wd_3_91 : Cond.code yX7_degree cX7_degree 4 (some .int) ∈ tbG := wm3 (k := 91) rfl rfl
theorem wd_3_92 : Cond.methodLink RX7 82 yX7_puts ∈ tbG := wm3 (k := 92) rfl rfl
theorem wd_3_94 : Cond.instanceMethod yX7_puts ∈ tbG := wm3 (k := 94) rfl rfl
theorem wd_3_95 : Cond.code yX7_puts cX7_puts 4 none ∈ tbG := wm3 (k := 95) rfl rfl
theorem wd_3_96 : Cond.methodLink RX7 93 yX7_shuts ∈ tbG := wm3 (k := 96) rfl rfl
theorem wd_3_98 : Cond.instanceMethod yX7_shuts ∈ tbG := wm3 (k := 98) rfl rfl
theorem wd_3_99 : Cond.code yX7_shuts cX7_shuts 2 none ∈ tbG := wm3 (k := 99) rfl rfl
theorem wd_3_101 : Cond.instanceMethod yX7_rule ∈ tbG := wm3 (k := 101) rfl rfl
theorem wd_3_102 : Cond.selects RX7 yX7_rule yX7_rule ∈ tbG := wm3 (k := 102) rfl rfl
theorem wd_3_103 : Cond.code yX7_rule cX7_rule 2 (some .boolean) ∈ tbG := wm3 (k := 103) rfl rfl
theorem wd_3_105 : Cond.instanceMethod yX7_weights ∈ tbG := wm3 (k := 105) rfl rfl
theorem wd_3_106 : Cond.selects RX7 yX7_weights yX7_weights ∈ tbG := wm3 (k := 106) rfl rfl
theorem wd_3_107 : Cond.code yX7_weights cX7_weights 3 (some .boolean) ∈ tbG := wm3 (k := 107) rfl rfl
theorem wd_3_109 : Cond.instanceMethod yX7_window ∈ tbG := wm3 (k := 109) rfl rfl
theorem wd_3_110 : Cond.selects RX7 yX7_window yX7_window ∈ tbG := wm3 (k := 110) rfl rfl
theorem wd_3_111 : Cond.code yX7_window cX7_window 2 (some .boolean) ∈ tbG := wm3 (k := 111) rfl rfl
theorem wd_3_113 : Cond.instanceMethod yX7_leave ∈ tbG := wm3 (k := 113) rfl rfl
theorem wd_3_114 : Cond.selects RX7 yX7_leave yX7_leave ∈ tbG := wm3 (k := 114) rfl rfl
theorem wd_3_115 : Cond.code yX7_leave cX7_leave 2 (some .boolean) ∈ tbG := wm3 (k := 115) rfl rfl
theorem wd_3_116 : Cond.methodLink RX7 99 yX7_isLive ∈ tbG := wm3 (k := 116) rfl rfl
theorem wd_3_118 : Cond.instanceMethod yX7_isLive ∈ tbG := wm3 (k := 118) rfl rfl
theorem wd_3_119 : Cond.code yX7_isLive cX7_isLive 2 (some .boolean) ∈ tbG := wm3 (k := 119) rfl rfl
theorem wd_3_121 : Cond.instanceMethod yX7_better ∈ tbG := wm3 (k := 121) rfl rfl
theorem wd_3_122 : Cond.selects RX7 yX7_better yX7_better ∈ tbG := wm3 (k := 122) rfl rfl
theorem wd_3_123 : Cond.code yX7_better cX7_better 3 (some .int) ∈ tbG := wm3 (k := 123) rfl rfl
theorem wd_3_124 : Cond.methodLink RX7 108 yX7_moves ∈ tbG := wm3 (k := 124) rfl rfl
theorem wd_3_126 : Cond.instanceMethod yX7_moves ∈ tbG := wm3 (k := 126) rfl rfl
theorem wd_3_127 : Cond.code yX7_moves cX7_moves 12 (some .boolean) ∈ tbG := wm3 (k := 127) rfl rfl
theorem wd_3_128 : Cond.methodLink RX7 102 yX7_room ∈ tbG := wm3 (k := 128) rfl rfl
theorem wd_3_129 : Cond.instanceMethod yX7_room ∈ tbG := wm3 (k := 129) rfl rfl
theorem wd_3_130 : Cond.selects RX7 yX7_room yX7_room ∈ tbG := wm3 (k := 130) rfl rfl
theorem wd_3_131 : Cond.code yX7_room cX7_room 1 (some .int) ∈ tbG := wm3 (k := 131) rfl rfl
theorem wd_3_132 : Cond.methodLink RX7 105 yX7_change ∈ tbG := wm3 (k := 132) rfl rfl
theorem wd_3_134 : Cond.instanceMethod yX7_change ∈ tbG := wm3 (k := 134) rfl rfl
theorem wd_3_135 : Cond.code yX7_change cX7_change 4 (some .int) ∈ tbG := wm3 (k := 135) rfl rfl
theorem wd_3_137 : Cond.instanceMethod yX7_more ∈ tbG := wm3 (k := 137) rfl rfl
theorem wd_3_138 : Cond.selects RX7 yX7_more yX7_more ∈ tbG := wm3 (k := 138) rfl rfl
theorem wd_3_139 : Cond.code yX7_more cX7_more 1 (some .int) ∈ tbG := wm3 (k := 139) rfl rfl
theorem wd_3_141 : Cond.instanceMethod yX7_less ∈ tbG := wm3 (k := 141) rfl rfl
theorem wd_3_142 : Cond.selects RX7 yX7_less yX7_less ∈ tbG := wm3 (k := 142) rfl rfl
theorem wd_3_143 : Cond.code yX7_less cX7_less 5 (some .int) ∈ tbG := wm3 (k := 143) rfl rfl
theorem wd_3_145 : Cond.instanceMethod yX7_host ∈ tbG := wm3 (k := 145) rfl rfl
theorem wd_3_146 : Cond.selects RX7 yX7_host yX7_host ∈ tbG := wm3 (k := 146) rfl rfl
theorem wd_3_147 : Cond.code yX7_host cX7_host 2 (some .int) ∈ tbG := wm3 (k := 147) rfl rfl
theorem wd_3_149 : Cond.instanceMethod yX7_load ∈ tbG := wm3 (k := 149) rfl rfl
theorem wd_3_150 : Cond.selects RX7 yX7_load yX7_load ∈ tbG := wm3 (k := 150) rfl rfl
theorem wd_3_151 : Cond.code yX7_load cX7_load 2 (some .int) ∈ tbG := wm3 (k := 151) rfl rfl
theorem wd_3_153 : Cond.instanceMethod yX7_copies ∈ tbG := wm3 (k := 153) rfl rfl
theorem wd_3_154 : Cond.selects RX7 yX7_copies yX7_copies ∈ tbG := wm3 (k := 154) rfl rfl
theorem wd_3_155 : Cond.code yX7_copies cX7_copies 4 (some .int) ∈ tbG := wm3 (k := 155) rfl rfl
theorem wd_3_157 : Cond.instanceMethod yX7_all ∈ tbG := wm3 (k := 157) rfl rfl
theorem wd_3_158 : Cond.selects RX7 yX7_all yX7_all ∈ tbG := wm3 (k := 158) rfl rfl
theorem wd_3_159 : Cond.code yX7_all cX7_all 3 (some .int) ∈ tbG := wm3 (k := 159) rfl rfl
theorem wd_3_160 : Cond.methodLink RX7 114 yX7_copiesOf ∈ tbG := wm3 (k := 160) rfl rfl
theorem wd_3_162 : Cond.instanceMethod yX7_copiesOf ∈ tbG := wm3 (k := 162) rfl rfl
theorem wd_3_163 : Cond.code yX7_copiesOf cX7_copiesOf 4 (some .int) ∈ tbG := wm3 (k := 163) rfl rfl
theorem wd_3_167 : Cond.instanceMethod yX7_best ∈ tbG := wm3 (k := 167) rfl rfl
theorem wd_3_168 : Cond.selects RX7 yX7_best yX7_best ∈ tbG := wm3 (k := 168) rfl rfl
theorem wd_3_169 : Cond.code yX7_best cX7_best 5 (some .int) ∈ tbG := wm3 (k := 169) rfl rfl
theorem wd_3_170 : Cond.methodLink RX7 117 yX7_dealt ∈ tbG := wm3 (k := 170) rfl rfl
theorem wd_3_172 : Cond.instanceMethod yX7_dealt ∈ tbG := wm3 (k := 172) rfl rfl
theorem wd_3_173 : Cond.code yX7_dealt cX7_dealt 6 (some .int) ∈ tbG := wm3 (k := 173) rfl rfl
theorem wd_3_175 : Cond.instanceMethod yX7_part ∈ tbG := wm3 (k := 175) rfl rfl
theorem wd_3_176 : Cond.selects RX7 yX7_part yX7_part ∈ tbG := wm3 (k := 176) rfl rfl
theorem wd_3_177 : Cond.code yX7_part cX7_part 2 (some .int) ∈ tbG := wm3 (k := 177) rfl rfl
theorem wd_3_178 : Cond.methodLink RX7 120 yX7_runs ∈ tbG := wm3 (k := 178) rfl rfl
theorem wd_3_180 : Cond.instanceMethod yX7_runs ∈ tbG := wm3 (k := 180) rfl rfl
theorem wd_3_181 : Cond.code yX7_runs cX7_runs 4 (some .int) ∈ tbG := wm3 (k := 181) rfl rfl
theorem wd_3_183 : Cond.instanceMethod yX7_run ∈ tbG := wm3 (k := 183) rfl rfl
theorem wd_3_184 : Cond.selects RX7 yX7_run yX7_run ∈ tbG := wm3 (k := 184) rfl rfl
theorem wd_3_185 : Cond.code yX7_run cX7_run 7 (some .int) ∈ tbG := wm3 (k := 185) rfl rfl
theorem wd_3_187 : Cond.instanceMethod yX7_master ∈ tbG := wm3 (k := 187) rfl rfl
theorem wd_3_188 : Cond.selects RX7 yX7_master yX7_master ∈ tbG := wm3 (k := 188) rfl rfl
theorem wd_3_189 : Cond.code yX7_master cX7_master 5 (some .int) ∈ tbG := wm3 (k := 189) rfl rfl
theorem wd_3_191 : Cond.instanceMethod yX7_count ∈ tbG := wm3 (k := 191) rfl rfl
theorem wd_3_192 : Cond.selects RX7 yX7_count yX7_count ∈ tbG := wm3 (k := 192) rfl rfl
theorem wd_3_193 : Cond.code yX7_count cX7_count 4 (some .int) ∈ tbG := wm3 (k := 193) rfl rfl
theorem kwJ7_fill_53178 : KS yJ7_fill_53178 (.code yJ7_fill_53178 cJ7_fill_53178 4 none) 2 := ⟨⟨wd_2_216, wd_1_11, wd_2_217⟩, by decide +kernel⟩
theorem kwX6_isPoint : KS yX6_isPoint (.code yX6_isPoint cX6_isPoint 1 (some .boolean)) 1 := ⟨⟨wd_1_238, wd_1_1, wd_1_239⟩, by decide +kernel⟩
theorem kwX4_addLine : KW RX4 yX4_addLine (.code yX4_addLine cX4_addLine 4 (some .int)) 2 := ⟨⟨wd_2_1, wd_2_2, wd_1_2, wd_2_3⟩, by decide +kernel⟩
theorem kwX1_roomFor : KW RX1 yX1_roomFor (.code yX1_roomFor cX1_roomFor 3 (some .int)) 1 := ⟨⟨wd_2_13, wd_2_14, wd_1_4, wd_2_15⟩, by decide +kernel⟩
theorem kwX4_greatestLoad : KW RX4 yX4_greatestLoad (.code yX4_greatestLoad cX4_greatestLoad 3 (some .int)) 0 := ⟨⟨wd_2_17, wd_2_18, wd_1_2, wd_2_19⟩, by decide +kernel⟩
theorem kwX4_hasCopy : KW RX4 yX4_hasCopy (.code yX4_hasCopy cX4_hasCopy 3 (some .boolean)) 2 := ⟨⟨wd_2_30, wd_2_31, wd_1_2, wd_2_32⟩, by decide +kernel⟩
theorem kwX1_scoreOfCopies : KW RX1 yX1_scoreOfCopies (.code yX1_scoreOfCopies cX1_scoreOfCopies 8 (some .int)) 3 := ⟨⟨wd_2_27, wd_0_2, wd_1_4, wd_2_28⟩, by decide +kernel⟩
theorem kwX1_scoreOf : KW RX1 yX1_scoreOf (.code yX1_scoreOf cX1_scoreOf 5 (some .int)) 4 := ⟨⟨wd_2_23, wd_0_1, wd_1_4, wd_2_24⟩, by decide +kernel⟩
theorem kwX1_chooseHost : KW RX1 yX1_chooseHost (.code yX1_chooseHost cX1_chooseHost 9 (some .int)) 2 := ⟨⟨wd_2_10, wd_0_0, wd_1_4, wd_2_11⟩, by decide +kernel⟩
theorem kwX4_hasHost : KW RX4 yX4_hasHost (.code yX4_hasHost cX4_hasHost 2 (some .boolean)) 1 := ⟨⟨wd_2_38, wd_2_39, wd_1_2, wd_2_40⟩, by decide +kernel⟩
theorem kwX4_putEnd : KW RX4 yX4_putEnd (.code yX4_putEnd cX4_putEnd 3 none) 2 := ⟨⟨wd_2_43, wd_0_3, wd_1_2, wd_2_44⟩, by decide +kernel⟩
theorem kwX4_putOn : KW RX4 yX4_putOn (.code yX4_putOn cX4_putOn 3 none) 2 := ⟨⟨wd_2_34, wd_2_35, wd_1_2, wd_2_36⟩, by decide +kernel⟩
theorem kwX1_dealLine : KW RX1 yX1_dealLine (.code yX1_dealLine cX1_dealLine 3 (some .int)) 1 := ⟨⟨wd_2_5, wd_2_6, wd_1_4, wd_2_7⟩, by decide +kernel⟩
theorem kwX4_isLive : KW RX4 yX4_isLive (.code yX4_isLive cX4_isLive 2 (some .boolean)) 1 := ⟨⟨wd_2_54, wd_2_55, wd_1_2, wd_2_56⟩, by decide +kernel⟩
theorem kwX4_takeEnd : KW RX4 yX4_takeEnd (.code yX4_takeEnd cX4_takeEnd 3 none) 2 := ⟨⟨wd_2_59, wd_0_5, wd_1_2, wd_2_60⟩, by decide +kernel⟩
theorem kwX4_takeOff : KW RX4 yX4_takeOff (.code yX4_takeOff cX4_takeOff 3 (some .boolean)) 1 := ⟨⟨wd_2_50, wd_2_51, wd_1_2, wd_2_52⟩, by decide +kernel⟩
theorem kwX6_keepWindow : KW RX6 yX6_keepWindow (.code yX6_keepWindow cX6_keepWindow 2 none) 0 := ⟨⟨wd_2_47, wd_0_4, wd_1_1, wd_2_48⟩, by decide +kernel⟩
theorem kwX6_line : KW RX6 yX6_line (.code yX6_line cX6_line 4 (some .int)) 2 := ⟨⟨wd_1_234, wd_1_235, wd_1_1, wd_1_236⟩, by decide +kernel⟩
theorem kwX6_rule : KW RX6 yX6_rule (.code yX6_rule cX6_rule 2 (some .boolean)) 1 := ⟨⟨wd_2_62, wd_2_63, wd_1_1, wd_2_64⟩, by decide +kernel⟩
theorem kwX6_isWeight : KS yX6_isWeight (.code yX6_isWeight cX6_isWeight 1 (some .boolean)) 1 := ⟨⟨wd_2_70, wd_1_1, wd_2_71⟩, by decide +kernel⟩
theorem kwX6_weights : KW RX6 yX6_weights (.code yX6_weights cX6_weights 3 (some .boolean)) 2 := ⟨⟨wd_2_66, wd_2_67, wd_1_1, wd_2_68⟩, by decide +kernel⟩
theorem kwX6_window : KW RX6 yX6_window (.code yX6_window cX6_window 2 (some .boolean)) 1 := ⟨⟨wd_2_73, wd_2_74, wd_1_1, wd_2_75⟩, by decide +kernel⟩
theorem kwX6_leave : KW RX6 yX6_leave (.code yX6_leave cX6_leave 2 (some .boolean)) 1 := ⟨⟨wd_2_77, wd_2_78, wd_1_1, wd_2_79⟩, by decide +kernel⟩
theorem kwX4_hasOneLineAt : KW RX4 yX4_hasOneLineAt (.code yX4_hasOneLineAt cX4_hasOneLineAt 3 (some .boolean)) 2 := ⟨⟨wd_2_99, wd_2_100, wd_1_2, wd_2_101⟩, by decide +kernel⟩
theorem kwX3_keepIfBetter : KW RX3 yX3_keepIfBetter (.code yX3_keepIfBetter cX3_keepIfBetter 5 none) 4 := ⟨⟨wd_2_105, wd_0_8, wd_1_5, wd_2_106⟩, by decide +kernel⟩
theorem kwX3_weighMovesOf : KW RX3 yX3_weighMovesOf (.code yX3_weighMovesOf cX3_weighMovesOf 10 none) 2 := ⟨⟨wd_2_96, wd_0_7, wd_1_5, wd_2_97⟩, by decide +kernel⟩
theorem kwX3_findMove : KW RX3 yX3_findMove (.code yX3_findMove cX3_findMove 3 (some .boolean)) 1 := ⟨⟨wd_2_90, wd_2_91, wd_1_5, wd_2_92⟩, by decide +kernel⟩
theorem kwX6_makeBetterMove : KW RX6 yX6_makeBetterMove (.code yX6_makeBetterMove cX6_makeBetterMove 1 (some .boolean)) 0 := ⟨⟨wd_2_86, wd_0_6, wd_1_1, wd_2_87⟩, by decide +kernel⟩
theorem kwX6_better : KW RX6 yX6_better (.code yX6_better cX6_better 3 (some .int)) 1 := ⟨⟨wd_2_81, wd_2_82, wd_1_1, wd_2_83⟩, by decide +kernel⟩
theorem kwX6_more : KW RX6 yX6_more (.code yX6_more cX6_more 1 (some .int)) 0 := ⟨⟨wd_2_109, wd_2_110, wd_1_1, wd_2_111⟩, by decide +kernel⟩
theorem kwX4_dropHost : KW RX4 yX4_dropHost (.code yX4_dropHost cX4_dropHost 6 (some .int)) 2 := ⟨⟨wd_2_118, wd_2_119, wd_1_2, wd_2_120⟩, by decide +kernel⟩
theorem kwX6_less : KW RX6 yX6_less (.code yX6_less cX6_less 4 (some .int)) 1 := ⟨⟨wd_2_113, wd_2_114, wd_1_1, wd_2_115⟩, by decide +kernel⟩
theorem kwX6_host : KW RX6 yX6_host (.code yX6_host cX6_host 2 (some .int)) 1 := ⟨⟨wd_2_124, wd_2_125, wd_1_1, wd_2_126⟩, by decide +kernel⟩
theorem kwX6_load : KW RX6 yX6_load (.code yX6_load cX6_load 2 (some .int)) 1 := ⟨⟨wd_2_129, wd_2_130, wd_1_1, wd_2_131⟩, by decide +kernel⟩
theorem kwX6_copies : KW RX6 yX6_copies (.code yX6_copies cX6_copies 2 (some .int)) 1 := ⟨⟨wd_2_133, wd_2_134, wd_1_1, wd_2_135⟩, by decide +kernel⟩
theorem kwX6_all : KW RX6 yX6_all (.code yX6_all cX6_all 1 (some .int)) 0 := ⟨⟨wd_2_137, wd_2_138, wd_1_1, wd_2_139⟩, by decide +kernel⟩
theorem kwX6_degree : KW RX6 yX6_degree (.code yX6_degree cX6_degree 2 (some .int)) 1 := ⟨⟨wd_2_141, wd_2_142, wd_1_1, wd_2_143⟩, by decide +kernel⟩
theorem kwX6_room : KW RX6 yX6_room (.code yX6_room cX6_room 1 (some .int)) 0 := ⟨⟨wd_2_145, wd_2_146, wd_1_1, wd_2_147⟩, by decide +kernel⟩
theorem kwX0_collectLines : KW RX0 yX0_collectLines (.code yX0_collectLines cX0_collectLines 2 none) 0 := ⟨⟨wd_2_158, wd_0_9, wd_1_6, wd_2_159⟩, by decide +kernel⟩
theorem kwX0_tryHost : KW RX0 yX0_tryHost (.code yX0_tryHost cX0_tryHost 10 none) 4 := ⟨⟨wd_2_169, wd_0_11, wd_1_6, wd_2_170⟩, by decide +kernel⟩
theorem kwX0_dealFrom : KW RX0 yX0_dealFrom (.code yX0_dealFrom cX0_dealFrom 6 none) 3 := ⟨⟨wd_2_163, wd_0_10, wd_1_6, wd_2_164⟩, by decide +kernel⟩
theorem kwX0_fewestCopies : KW RX0 yX0_fewestCopies (.code yX0_fewestCopies cX0_fewestCopies 2 (some .int)) 1 := ⟨⟨wd_2_153, wd_2_154, wd_1_6, wd_2_155⟩, by decide +kernel⟩
theorem kwX6_best : KW RX6 yX6_best (.code yX6_best cX6_best 1 (some .int)) 0 := ⟨⟨wd_2_149, wd_2_150, wd_1_1, wd_2_151⟩, by decide +kernel⟩
theorem kwX5_lowerTo : KW RX5 yX5_lowerTo (.code yX5_lowerTo cX5_lowerTo 3 (some .boolean)) 2 := ⟨⟨wd_2_189, wd_0_13, wd_1_7, wd_2_190⟩, by decide +kernel⟩
theorem kwX5_goOneRound : KW RX5 yX5_goOneRound (.code yX5_goOneRound cX5_goOneRound 5 (some .boolean)) 0 := ⟨⟨wd_2_181, wd_0_12, wd_1_7, wd_2_182⟩, by decide +kernel⟩
theorem kwX5_spread : KW RX5 yX5_spread (.code yX5_spread cX5_spread 2 none) 0 := ⟨⟨wd_2_176, wd_2_177, wd_1_7, wd_2_178⟩, by decide +kernel⟩
theorem kwX6_part : KW RX6 yX6_part (.code yX6_part cX6_part 2 (some .int)) 1 := ⟨⟨wd_2_172, wd_2_173, wd_1_1, wd_2_174⟩, by decide +kernel⟩
theorem kwX4_pointsWithCopies : KW RX4 yX4_pointsWithCopies (.code yX4_pointsWithCopies cX4_pointsWithCopies 3 (some .int)) 0 := ⟨⟨wd_2_200, wd_2_201, wd_1_2, wd_2_202⟩, by decide +kernel⟩
theorem kwX5_letters : KW RX5 yX5_letters (.code yX5_letters cX5_letters 2 (some .int)) 0 := ⟨⟨wd_2_196, wd_2_197, wd_1_7, wd_2_198⟩, by decide +kernel⟩
theorem kwX5_partsWithLines : KW RX5 yX5_partsWithLines (.code yX5_partsWithLines cX5_partsWithLines 3 (some .int)) 0 := ⟨⟨wd_2_204, wd_2_205, wd_1_7, wd_2_206⟩, by decide +kernel⟩
theorem kwX6_run : KW RX6 yX6_run (.code yX6_run cX6_run 2 (some .int)) 1 := ⟨⟨wd_2_192, wd_2_193, wd_1_1, wd_2_194⟩, by decide +kernel⟩
theorem kwX2_leastMasterFor : KW RX2 yX2_leastMasterFor (.code yX2_leastMasterFor cX2_leastMasterFor 4 (some .int)) 1 := ⟨⟨wd_2_220, wd_0_14, wd_1_8, wd_2_221⟩, by decide +kernel⟩
theorem kwX2_masterOf : KW RX2 yX2_masterOf (.code yX2_masterOf cX2_masterOf 4 (some .int)) 1 := ⟨⟨wd_2_212, wd_2_213, wd_1_8, wd_2_214⟩, by decide +kernel⟩
theorem kwX6_master : KW RX6 yX6_master (.code yX6_master cX6_master 2 (some .int)) 1 := ⟨⟨wd_2_208, wd_2_209, wd_1_1, wd_2_210⟩, by decide +kernel⟩
theorem kwX4_leastLoad : KW RX4 yX4_leastLoad (.code yX4_leastLoad cX4_leastLoad 3 (some .int)) 0 := ⟨⟨wd_2_229, wd_2_230, wd_1_2, wd_2_231⟩, by decide +kernel⟩
theorem kwX6_count : KW RX6 yX6_count (.code yX6_count cX6_count 2 (some .int)) 1 := ⟨⟨wd_2_224, wd_2_225, wd_1_1, wd_2_226⟩, by decide +kernel⟩
theorem kwX7_in : KS yX7_in (.code yX7_in cX7_in 3 (some .boolean)) 3 := ⟨⟨wd_3_70, wd_1_9, wd_3_71⟩, by decide +kernel⟩
theorem kwX7_isPoint : KS yX7_isPoint (.code yX7_isPoint cX7_isPoint 1 (some .boolean)) 1 := ⟨⟨wd_3_67, wd_1_9, wd_3_68⟩, by decide +kernel⟩
theorem kwX7_isLive : KW RX7 yX7_isLive (.code yX7_isLive cX7_isLive 2 (some .boolean)) 1 := ⟨⟨wd_3_118, wd_0_21, wd_1_9, wd_3_119⟩, by decide +kernel⟩
theorem kwX7_roomFor : KW RX7 yX7_roomFor (.code yX7_roomFor cX7_roomFor 2 (some .int)) 1 := ⟨⟨wd_3_78, wd_0_16, wd_1_9, wd_3_79⟩, by decide +kernel⟩
theorem kwX7_puts : KW RX7 yX7_puts (.code yX7_puts cX7_puts 4 none) 3 := ⟨⟨wd_3_94, wd_0_19, wd_1_9, wd_3_95⟩, by decide +kernel⟩
theorem kwX7_greatest : KW RX7 yX7_greatest (.code yX7_greatest cX7_greatest 3 (some .int)) 0 := ⟨⟨wd_3_86, wd_0_18, wd_1_9, wd_3_87⟩, by decide +kernel⟩
theorem kwX7_degree : KW RX7 yX7_degree (.code yX7_degree cX7_degree 4 (some .int)) 1 := ⟨⟨wd_3_89, wd_3_90, wd_1_9, wd_3_91⟩, by decide +kernel⟩
theorem kwX7_scoreOf : KW RX7 yX7_scoreOf (.code yX7_scoreOf cX7_scoreOf 8 (some .int)) 3 := ⟨⟨wd_3_82, wd_0_17, wd_1_9, wd_3_83⟩, by decide +kernel⟩
theorem kwX7_deals : KW RX7 yX7_deals (.code yX7_deals cX7_deals 7 (some .int)) 1 := ⟨⟨wd_3_74, wd_0_15, wd_1_9, wd_3_75⟩, by decide +kernel⟩
theorem kwX7_shuts : KW RX7 yX7_shuts (.code yX7_shuts cX7_shuts 2 none) 0 := ⟨⟨wd_3_98, wd_0_20, wd_1_9, wd_3_99⟩, by decide +kernel⟩
theorem kwX7_line : KW RX7 yX7_line (.code yX7_line cX7_line 4 (some .int)) 2 := ⟨⟨wd_3_63, wd_3_64, wd_1_9, wd_3_65⟩, by decide +kernel⟩
theorem kwX7_rule : KW RX7 yX7_rule (.code yX7_rule cX7_rule 2 (some .boolean)) 1 := ⟨⟨wd_3_101, wd_3_102, wd_1_9, wd_3_103⟩, by decide +kernel⟩
theorem kwX7_weights : KW RX7 yX7_weights (.code yX7_weights cX7_weights 3 (some .boolean)) 2 := ⟨⟨wd_3_105, wd_3_106, wd_1_9, wd_3_107⟩, by decide +kernel⟩
theorem kwX7_window : KW RX7 yX7_window (.code yX7_window cX7_window 2 (some .boolean)) 1 := ⟨⟨wd_3_109, wd_3_110, wd_1_9, wd_3_111⟩, by decide +kernel⟩
theorem kwX7_leave : KW RX7 yX7_leave (.code yX7_leave cX7_leave 2 (some .boolean)) 1 := ⟨⟨wd_3_113, wd_3_114, wd_1_9, wd_3_115⟩, by decide +kernel⟩
theorem kwX7_change : KW RX7 yX7_change (.code yX7_change cX7_change 4 (some .int)) 3 := ⟨⟨wd_3_134, wd_0_23, wd_1_9, wd_3_135⟩, by decide +kernel⟩
theorem kwX7_room : KW RX7 yX7_room (.code yX7_room cX7_room 1 (some .int)) 0 := ⟨⟨wd_3_129, wd_3_130, wd_1_9, wd_3_131⟩, by decide +kernel⟩
theorem kwX7_moves : KW RX7 yX7_moves (.code yX7_moves cX7_moves 12 (some .boolean)) 0 := ⟨⟨wd_3_126, wd_0_22, wd_1_9, wd_3_127⟩, by decide +kernel⟩
theorem kwX7_better : KW RX7 yX7_better (.code yX7_better cX7_better 3 (some .int)) 1 := ⟨⟨wd_3_121, wd_3_122, wd_1_9, wd_3_123⟩, by decide +kernel⟩
theorem kwX7_more : KW RX7 yX7_more (.code yX7_more cX7_more 1 (some .int)) 0 := ⟨⟨wd_3_137, wd_3_138, wd_1_9, wd_3_139⟩, by decide +kernel⟩
theorem kwX7_less : KW RX7 yX7_less (.code yX7_less cX7_less 5 (some .int)) 1 := ⟨⟨wd_3_141, wd_3_142, wd_1_9, wd_3_143⟩, by decide +kernel⟩
theorem kwX7_host : KW RX7 yX7_host (.code yX7_host cX7_host 2 (some .int)) 1 := ⟨⟨wd_3_145, wd_3_146, wd_1_9, wd_3_147⟩, by decide +kernel⟩
theorem kwX7_load : KW RX7 yX7_load (.code yX7_load cX7_load 2 (some .int)) 1 := ⟨⟨wd_3_149, wd_3_150, wd_1_9, wd_3_151⟩, by decide +kernel⟩
theorem kwX7_copies : KW RX7 yX7_copies (.code yX7_copies cX7_copies 4 (some .int)) 1 := ⟨⟨wd_3_153, wd_3_154, wd_1_9, wd_3_155⟩, by decide +kernel⟩
theorem kwX7_copiesOf : KW RX7 yX7_copiesOf (.code yX7_copiesOf cX7_copiesOf 4 (some .int)) 1 := ⟨⟨wd_3_162, wd_0_24, wd_1_9, wd_3_163⟩, by decide +kernel⟩
theorem kwX7_all : KW RX7 yX7_all (.code yX7_all cX7_all 3 (some .int)) 0 := ⟨⟨wd_3_157, wd_3_158, wd_1_9, wd_3_159⟩, by decide +kernel⟩
theorem kwX7_dealt : KW RX7 yX7_dealt (.code yX7_dealt cX7_dealt 6 (some .int)) 1 := ⟨⟨wd_3_172, wd_0_25, wd_1_9, wd_3_173⟩, by decide +kernel⟩
theorem kwX7_best : KW RX7 yX7_best (.code yX7_best cX7_best 5 (some .int)) 0 := ⟨⟨wd_3_167, wd_3_168, wd_1_9, wd_3_169⟩, by decide +kernel⟩
theorem kwX7_runs : KW RX7 yX7_runs (.code yX7_runs cX7_runs 4 (some .int)) 0 := ⟨⟨wd_3_180, wd_0_26, wd_1_9, wd_3_181⟩, by decide +kernel⟩
theorem kwX7_part : KW RX7 yX7_part (.code yX7_part cX7_part 2 (some .int)) 1 := ⟨⟨wd_3_175, wd_3_176, wd_1_9, wd_3_177⟩, by decide +kernel⟩
theorem kwX7_run : KW RX7 yX7_run (.code yX7_run cX7_run 7 (some .int)) 1 := ⟨⟨wd_3_183, wd_3_184, wd_1_9, wd_3_185⟩, by decide +kernel⟩
theorem kwX7_master : KW RX7 yX7_master (.code yX7_master cX7_master 5 (some .int)) 1 := ⟨⟨wd_3_187, wd_3_188, wd_1_9, wd_3_189⟩, by decide +kernel⟩
theorem kwX7_count : KW RX7 yX7_count (.code yX7_count cX7_count 4 (some .int)) 1 := ⟨⟨wd_3_191, wd_3_192, wd_1_9, wd_3_193⟩, by decide +kernel⟩
end
section
/-! walks of the class -/
section
variable {D : va_G} {a : Nat → Nat} {cA cZ : ClassId} {p : Program} {l : Launch} {e : Env} {s : State} {m : MethodId} {args : Array Value} {below : List Frame} {meth : Method} {c : Code} {A : Nat → Prop}

theorem dJ7_fill_53178_0 : decode cJ7_fill_53178 0 = .ok (.iconst 0, 1) := by decide +kernel
theorem dJ7_fill_53178_1 : decode cJ7_fill_53178 1 = .ok (.istore_n 2, 1) := by decide +kernel
theorem dJ7_fill_53178_2 : decode cJ7_fill_53178 2 = .ok (.aload_n 0, 1) := by decide +kernel
theorem dJ7_fill_53178_3 : decode cJ7_fill_53178 3 = .ok (.arraylength, 1) := by decide +kernel
theorem dJ7_fill_53178_4 : decode cJ7_fill_53178 4 = .ok (.istore_n 3, 1) := by decide +kernel
theorem dJ7_fill_53178_5 : decode cJ7_fill_53178 5 = .ok (.iload_n 2, 1) := by decide +kernel
theorem dJ7_fill_53178_6 : decode cJ7_fill_53178 6 = .ok (.iload_n 3, 1) := by decide +kernel
theorem dJ7_fill_53178_7 : decode cJ7_fill_53178 7 = .ok (.if_icmp .ge 13, 3) := by decide +kernel
theorem dJ7_fill_53178_10 : decode cJ7_fill_53178 10 = .ok (.aload_n 0, 1) := by decide +kernel
theorem dJ7_fill_53178_11 : decode cJ7_fill_53178 11 = .ok (.iload_n 2, 1) := by decide +kernel
theorem dJ7_fill_53178_12 : decode cJ7_fill_53178 12 = .ok (.iload_n 1, 1) := by decide +kernel
theorem dJ7_fill_53178_13 : decode cJ7_fill_53178 13 = .ok (.iastore, 1) := by decide +kernel
theorem dJ7_fill_53178_14 : decode cJ7_fill_53178 14 = .ok (.iinc 2 1, 3) := by decide +kernel
theorem dJ7_fill_53178_17 : decode cJ7_fill_53178 17 = .ok (.goto (-12), 3) := by decide +kernel
theorem dJ7_fill_53178_20 : decode cJ7_fill_53178 20 = .ok (.return_, 1) := by decide +kernel
set_option maxHeartbeats 4000000 in
set_option maxRecDepth 100000 in
theorem uJ7_fill_53178_5_b (C : CX D [(cA, .int)] p s m args meth c A cJ7_fill_53178 4 RJ7 none) (k5 : Int32 → Int32 → Int32 → St → Rs) (h5 : ∀ (v1 v2 v3 : Int32) (S : St), RU D (wX a cA) p l e 1 s m args below meth c A 4 (QV D (wX a cA) [(cA, .int)] A) (k5 v1 v2 v3 S) 5 [] [(0, .ref (a 20)), (1, .int v1), (2, .int v2), (3, .int v3)] S) (v1 v2 v3 : Int32) (S : St) : RU D (wX a cA) p l e 1 s m args below meth c A 4 (QV D (wX a cA) [(cA, .int)] A) (fJ7_fill_53178_5_b k5 v1 v2 v3 S) 5 [] [(0, .ref (a 20)), (1, .int v1), (2, .int v2), (3, .int v3)] S := by
  unfold fJ7_fill_53178_5_b
  refine R_iload_n C dJ7_fill_53178_5 rfl 2 rfl ?_
  refine R_iload_n C dJ7_fill_53178_6 rfl 3 rfl ?_
  refine R_icmp_ge (tgt := 20) C dJ7_fill_53178_7 (by decide) ?_ ?_
  · exact R_retv C dJ7_fill_53178_20
  · refine R_aload_n C dJ7_fill_53178_10 rfl 0 rfl ?_
    refine R_iload_n C dJ7_fill_53178_11 rfl 2 rfl ?_
    refine R_iload_n C dJ7_fill_53178_12 rfl 1 rfl ?_
    refine svX13 C dJ7_fill_53178_13 ?_
    refine R_letS (fun S1 => ?_)
    refine R_iinc (v := v2 + 1) (lv' := [(2, .int (v2 + 1)), (0, .ref (a 20)), (1, .int v1), (3, .int v3)]) C dJ7_fill_53178_14 2 rfl rfl (by decide) rfl ?_
    refine R_goto (tgt := 5) C dJ7_fill_53178_17 (by decide) ?_
    refine R_sub [1, 2, 0, 3] rfl ?_
    exact h5 v1 (v2 + 1) v3 S1
set_option maxHeartbeats 4000000 in
set_option maxRecDepth 100000 in
theorem uJ7_fill_53178_5 (C : CX D [(cA, .int)] p s m args meth c A cJ7_fill_53178 4 RJ7 none) : ∀ (n : Nat) (v1 v2 v3 : Int32) (S : St), RU D (wX a cA) p l e 1 s m args below meth c A 4 (QV D (wX a cA) [(cA, .int)] A) (fJ7_fill_53178_5 n v1 v2 v3 S) 5 [] [(0, .ref (a 20)), (1, .int v1), (2, .int v2), (3, .int v3)] S := by
  intro n
  induction n with
  | zero => intro v1 v2 v3 S; exact R_none
  | succ n ih => intro v1 v2 v3 S; exact uJ7_fill_53178_5_b C _ ih v1 v2 v3 S
set_option maxHeartbeats 4000000 in
set_option maxRecDepth 100000 in
theorem uJ7_fill_53178 (C : CX D [(cA, .int)] p s m args meth c A cJ7_fill_53178 4 RJ7 none) (v1 : Int32) (S : St) : RU D (wX a cA) p l e 1 s m args below meth c A 4 (QV D (wX a cA) [(cA, .int)] A) (fJ7_fill_53178 v1 S) 0 [] [(0, .ref (a 20)), (1, .int v1)] S := by
  unfold fJ7_fill_53178
  refine R_iconst (v := (0 : Int32)) C dJ7_fill_53178_0 (by decide) ?_
  refine R_istore_n (lv' := [(2, .int (0 : Int32)), (0, .ref (a 20)), (1, .int v1)]) C dJ7_fill_53178_1 rfl (by decide) rfl ?_
  refine R_aload_n C dJ7_fill_53178_2 rfl 1 rfl ?_
  refine lnX13 C dJ7_fill_53178_3 ?_
  refine R_istore_n (lv' := [(3, .int (8 : Int32)), (2, .int (0 : Int32)), (0, .ref (a 20)), (1, .int v1)]) C dJ7_fill_53178_4 rfl (by decide) rfl ?_
  refine R_sub [2, 3, 1, 0] rfl ?_
  exact uJ7_fill_53178_5 C FU v1 (0 : Int32) (8 : Int32) S
set_option maxHeartbeats 4000000 in
set_option maxRecDepth 100000 in
theorem kJ7_fill_53178 (l : Launch) (D : va_G) (a : Nat → Nat) (cA : ClassId) (S : St) (v1 : Int32) : CV l D (wX a cA) [(cA, .int)] yJ7_fill_53178 (.code yJ7_fill_53178 cJ7_fill_53178 4 none) 1 [.ref (a 20), .int v1] (fJ7_fill_53178 v1 S) S := CV_of rfl (Nat.le_of_ble_eq_true rfl) (fun p e s m args below meth c A C => uJ7_fill_53178 C v1 S)
theorem dX6_isPoint_0 : decode cX6_isPoint 0 = .ok (.iload_n 0, 1) := by decide +kernel
theorem dX6_isPoint_1 : decode cX6_isPoint 1 = .ok (.ifCond .lt 13, 3) := by decide +kernel
theorem dX6_isPoint_4 : decode cX6_isPoint 4 = .ok (.iload_n 0, 1) := by decide +kernel
theorem dX6_isPoint_5 : decode cX6_isPoint 5 = .ok (.bipush 40, 2) := by decide +kernel
theorem dX6_isPoint_7 : decode cX6_isPoint 7 = .ok (.if_icmp .ge 7, 3) := by decide +kernel
theorem dX6_isPoint_10 : decode cX6_isPoint 10 = .ok (.iconst 1, 1) := by decide +kernel
theorem dX6_isPoint_11 : decode cX6_isPoint 11 = .ok (.goto 4, 3) := by decide +kernel
theorem dX6_isPoint_14 : decode cX6_isPoint 14 = .ok (.iconst 0, 1) := by decide +kernel
theorem dX6_isPoint_15 : decode cX6_isPoint 15 = .ok (.ireturn, 1) := by decide +kernel
set_option maxHeartbeats 4000000 in
set_option maxRecDepth 100000 in
theorem uX6_isPoint_15 (C : CX D [(cA, .int)] p s m args meth c A cX6_isPoint 1 RX6 (some .boolean)) (t0 : Int32) (S : St) : RU D (wX a cA) p l e 1 s m args below meth c A 1 (QI D (wX a cA) [(cA, .int)] A) (fX6_isPoint_15 t0 S) 15 [.int t0] [] S := by
  unfold fX6_isPoint_15
  exact R_retz C dX6_isPoint_15
set_option maxHeartbeats 4000000 in
set_option maxRecDepth 100000 in
theorem uX6_isPoint_14 (C : CX D [(cA, .int)] p s m args meth c A cX6_isPoint 1 RX6 (some .boolean)) (S : St) : RU D (wX a cA) p l e 1 s m args below meth c A 1 (QI D (wX a cA) [(cA, .int)] A) (fX6_isPoint_14 S) 14 [] [] S := by
  unfold fX6_isPoint_14
  refine R_iconst (v := (0 : Int32)) C dX6_isPoint_14 (by decide) ?_
  exact uX6_isPoint_15 C (0 : Int32) S
set_option maxHeartbeats 4000000 in
set_option maxRecDepth 100000 in
theorem uX6_isPoint (C : CX D [(cA, .int)] p s m args meth c A cX6_isPoint 1 RX6 (some .boolean)) (v0 : Int32) (S : St) : RU D (wX a cA) p l e 1 s m args below meth c A 1 (QI D (wX a cA) [(cA, .int)] A) (fX6_isPoint v0 S) 0 [] [(0, .int v0)] S := by
  unfold fX6_isPoint
  refine R_iload_n C dX6_isPoint_0 rfl 0 rfl ?_
  refine R_if_lt (tgt := 14) C dX6_isPoint_1 (by decide) ?_ ?_
  · refine R_sub [] rfl ?_
    exact uX6_isPoint_14 C S
  · refine R_iload_n C dX6_isPoint_4 rfl 0 rfl ?_
    refine R_bipush (v := (40 : Int32)) C dX6_isPoint_5 (by decide) ?_
    refine R_icmp_ge (tgt := 14) C dX6_isPoint_7 (by decide) ?_ ?_
    · refine R_sub [] rfl ?_
      exact uX6_isPoint_14 C S
    · refine R_iconst (v := (1 : Int32)) C dX6_isPoint_10 (by decide) ?_
      refine R_goto (tgt := 15) C dX6_isPoint_11 (by decide) ?_
      refine R_sub [] rfl ?_
      exact uX6_isPoint_15 C (1 : Int32) S
set_option maxHeartbeats 4000000 in
set_option maxRecDepth 100000 in
theorem kX6_isPoint (l : Launch) (D : va_G) (a : Nat → Nat) (cA : ClassId) (S : St) (v0 : Int32) : CI l D (wX a cA) [(cA, .int)] yX6_isPoint (.code yX6_isPoint cX6_isPoint 1 (some .boolean)) 1 [.int v0] (fX6_isPoint v0 S) S := CI_of rfl (Nat.le_of_ble_eq_true rfl) (fun p e s m args below meth c A C => uX6_isPoint C v0 S)
theorem dX4_addLine_0 : decode cX4_addLine 0 = .ok (.aload_n 0, 1) := by decide +kernel
theorem dX4_addLine_1 : decode cX4_addLine 1 = .ok (.getfield 37, 3) := by decide +kernel
theorem dX4_addLine_4 : decode cX4_addLine 4 = .ok (.istore_n 3, 1) := by decide +kernel
theorem dX4_addLine_5 : decode cX4_addLine 5 = .ok (.aload_n 0, 1) := by decide +kernel
theorem dX4_addLine_6 : decode cX4_addLine 6 = .ok (.getfield 9, 3) := by decide +kernel
theorem dX4_addLine_9 : decode cX4_addLine 9 = .ok (.iload_n 3, 1) := by decide +kernel
theorem dX4_addLine_10 : decode cX4_addLine 10 = .ok (.iload_n 1, 1) := by decide +kernel
theorem dX4_addLine_11 : decode cX4_addLine 11 = .ok (.iastore, 1) := by decide +kernel
theorem dX4_addLine_12 : decode cX4_addLine 12 = .ok (.aload_n 0, 1) := by decide +kernel
theorem dX4_addLine_13 : decode cX4_addLine 13 = .ok (.getfield 15, 3) := by decide +kernel
theorem dX4_addLine_16 : decode cX4_addLine 16 = .ok (.iload_n 3, 1) := by decide +kernel
theorem dX4_addLine_17 : decode cX4_addLine 17 = .ok (.iload_n 2, 1) := by decide +kernel
theorem dX4_addLine_18 : decode cX4_addLine 18 = .ok (.iastore, 1) := by decide +kernel
theorem dX4_addLine_19 : decode cX4_addLine 19 = .ok (.aload_n 0, 1) := by decide +kernel
theorem dX4_addLine_20 : decode cX4_addLine 20 = .ok (.getfield 18, 3) := by decide +kernel
theorem dX4_addLine_23 : decode cX4_addLine 23 = .ok (.iload_n 3, 1) := by decide +kernel
theorem dX4_addLine_24 : decode cX4_addLine 24 = .ok (.iconst (-1), 1) := by decide +kernel
theorem dX4_addLine_25 : decode cX4_addLine 25 = .ok (.iastore, 1) := by decide +kernel
theorem dX4_addLine_26 : decode cX4_addLine 26 = .ok (.aload_n 0, 1) := by decide +kernel
theorem dX4_addLine_27 : decode cX4_addLine 27 = .ok (.dup, 1) := by decide +kernel
theorem dX4_addLine_28 : decode cX4_addLine 28 = .ok (.getfield 37, 3) := by decide +kernel
theorem dX4_addLine_31 : decode cX4_addLine 31 = .ok (.iconst 1, 1) := by decide +kernel
theorem dX4_addLine_32 : decode cX4_addLine 32 = .ok (.iadd, 1) := by decide +kernel
theorem dX4_addLine_33 : decode cX4_addLine 33 = .ok (.putfield 37, 3) := by decide +kernel
theorem dX4_addLine_36 : decode cX4_addLine 36 = .ok (.iload_n 3, 1) := by decide +kernel
theorem dX4_addLine_37 : decode cX4_addLine 37 = .ok (.ireturn, 1) := by decide +kernel
set_option maxHeartbeats 4000000 in
set_option maxRecDepth 100000 in
theorem uX4_addLine (C : CX D [(cA, .int)] p s m args meth c A cX4_addLine 4 RX4 (some .int)) (v1 v2 : Int32) (S : St) : RU D (wX a cA) p l e 1 s m args below meth c A 4 (QI D (wX a cA) [(cA, .int)] A) (fX4_addLine v1 v2 S) 0 [] [(0, .ref (a 1)), (1, .int v1), (2, .int v2)] S := by
  unfold fX4_addLine
  refine R_aload_n C dX4_addLine_0 rfl 0 rfl ?_
  refine gtX_X4_came C wd_1_64 dX4_addLine_1 ?_
  refine R_let (fun x1 => ?_)
  refine R_istore_n (lv' := [(3, .int x1), (0, .ref (a 1)), (1, .int v1), (2, .int v2)]) C dX4_addLine_4 rfl (by decide) rfl ?_
  refine R_aload_n C dX4_addLine_5 rfl 1 rfl ?_
  refine gtX_X4_firstEnd C wd_1_32 dX4_addLine_6 ?_
  refine R_iload_n C dX4_addLine_9 rfl 0 rfl ?_
  refine R_iload_n C dX4_addLine_10 rfl 2 rfl ?_
  refine svX1 C dX4_addLine_11 ?_
  refine R_letS (fun S2 => ?_)
  refine R_aload_n C dX4_addLine_12 rfl 1 rfl ?_
  refine gtX_X4_secondEnd C wd_1_37 dX4_addLine_13 ?_
  refine R_iload_n C dX4_addLine_16 rfl 0 rfl ?_
  refine R_iload_n C dX4_addLine_17 rfl 3 rfl ?_
  refine svX2 C dX4_addLine_18 ?_
  refine R_letS (fun S3 => ?_)
  refine R_aload_n C dX4_addLine_19 rfl 1 rfl ?_
  refine gtX_X4_hostOf C wd_1_42 dX4_addLine_20 ?_
  refine R_iload_n C dX4_addLine_23 rfl 0 rfl ?_
  refine R_iconst (v := (-1 : Int32)) C dX4_addLine_24 (by decide) ?_
  refine svX3 C dX4_addLine_25 ?_
  refine R_letS (fun S4 => ?_)
  refine R_aload_n C dX4_addLine_26 rfl 1 rfl ?_
  refine R_dup C dX4_addLine_27 rfl ?_
  refine gtX_X4_came C wd_1_64 dX4_addLine_28 ?_
  refine R_iconst (v := (1 : Int32)) C dX4_addLine_31 (by decide) ?_
  refine R_iadd C dX4_addLine_32 ?_
  refine ptX_X4_came C wd_1_64 dX4_addLine_33 ?_
  refine R_letS (fun S5 => ?_)
  refine R_iload_n C dX4_addLine_36 rfl 0 rfl ?_
  exact R_reti C dX4_addLine_37
set_option maxHeartbeats 4000000 in
set_option maxRecDepth 100000 in
theorem kX4_addLine (l : Launch) (D : va_G) (a : Nat → Nat) (cA : ClassId) (S : St) (v1 v2 : Int32) : CI l D (wX a cA) [(cA, .int)] yX4_addLine (.code yX4_addLine cX4_addLine 4 (some .int)) 1 [.ref (a 1), .int v1, .int v2] (fX4_addLine v1 v2 S) S := CI_of rfl (Nat.le_of_ble_eq_true rfl) (fun p e s m args below meth c A C => uX4_addLine C v1 v2 S)
theorem dX1_roomFor_0 : decode cX1_roomFor 0 = .ok (.bipush 100, 2) := by decide +kernel
theorem dX1_roomFor_2 : decode cX1_roomFor 2 = .ok (.aload_n 0, 1) := by decide +kernel
theorem dX1_roomFor_3 : decode cX1_roomFor 3 = .ok (.getfield 21, 3) := by decide +kernel
theorem dX1_roomFor_6 : decode cX1_roomFor 6 = .ok (.getfield 25, 3) := by decide +kernel
theorem dX1_roomFor_9 : decode cX1_roomFor 9 = .ok (.imul, 1) := by decide +kernel
theorem dX1_roomFor_10 : decode cX1_roomFor 10 = .ok (.istore_n 2, 1) := by decide +kernel
theorem dX1_roomFor_11 : decode cX1_roomFor 11 = .ok (.iload_n 2, 1) := by decide +kernel
theorem dX1_roomFor_12 : decode cX1_roomFor 12 = .ok (.ifCond .gt 5, 3) := by decide +kernel
theorem dX1_roomFor_15 : decode cX1_roomFor 15 = .ok (.iconst 0, 1) := by decide +kernel
theorem dX1_roomFor_16 : decode cX1_roomFor 16 = .ok (.ireturn, 1) := by decide +kernel
theorem dX1_roomFor_17 : decode cX1_roomFor 17 = .ok (.iload_n 1, 1) := by decide +kernel
theorem dX1_roomFor_18 : decode cX1_roomFor 18 = .ok (.bipush 100, 2) := by decide +kernel
theorem dX1_roomFor_20 : decode cX1_roomFor 20 = .ok (.aload_n 0, 1) := by decide +kernel
theorem dX1_roomFor_21 : decode cX1_roomFor 21 = .ok (.getfield 15, 3) := by decide +kernel
theorem dX1_roomFor_24 : decode cX1_roomFor 24 = .ok (.iadd, 1) := by decide +kernel
theorem dX1_roomFor_25 : decode cX1_roomFor 25 = .ok (.imul, 1) := by decide +kernel
theorem dX1_roomFor_26 : decode cX1_roomFor 26 = .ok (.iload_n 2, 1) := by decide +kernel
theorem dX1_roomFor_27 : decode cX1_roomFor 27 = .ok (.iadd, 1) := by decide +kernel
theorem dX1_roomFor_28 : decode cX1_roomFor 28 = .ok (.iconst 1, 1) := by decide +kernel
theorem dX1_roomFor_29 : decode cX1_roomFor 29 = .ok (.isub, 1) := by decide +kernel
theorem dX1_roomFor_30 : decode cX1_roomFor 30 = .ok (.iload_n 2, 1) := by decide +kernel
theorem dX1_roomFor_31 : decode cX1_roomFor 31 = .ok (.idiv, 1) := by decide +kernel
theorem dX1_roomFor_32 : decode cX1_roomFor 32 = .ok (.ireturn, 1) := by decide +kernel
set_option maxHeartbeats 4000000 in
set_option maxRecDepth 100000 in
theorem uX1_roomFor (C : CX D [(cA, .int)] p s m args meth c A cX1_roomFor 3 RX1 (some .int)) (v1 : Int32) (S : St) : RU D (wX a cA) p l e 1 s m args below meth c A 3 (QI D (wX a cA) [(cA, .int)] A) (fX1_roomFor v1 S) 0 [] [(0, .ref (a 2)), (1, .int v1)] S := by
  unfold fX1_roomFor
  refine R_bipush (v := (100 : Int32)) C dX1_roomFor_0 (by decide) ?_
  refine R_aload_n C dX1_roomFor_2 rfl 0 rfl ?_
  refine gtX_X1_net C wd_1_103 dX1_roomFor_3 ?_
  refine gtX_X4_hosts C wd_1_57 dX1_roomFor_6 ?_
  refine R_imul C dX1_roomFor_9 ?_
  refine R_let (fun x1 => ?_)
  refine R_istore_n (lv' := [(2, .int x1), (0, .ref (a 2)), (1, .int v1)]) C dX1_roomFor_10 rfl (by decide) rfl ?_
  refine R_iload_n C dX1_roomFor_11 rfl 0 rfl ?_
  refine R_if_gt (tgt := 17) C dX1_roomFor_12 (by decide) ?_ ?_
  · refine R_iload_n C dX1_roomFor_17 rfl 2 rfl ?_
    refine R_bipush (v := (100 : Int32)) C dX1_roomFor_18 (by decide) ?_
    refine R_aload_n C dX1_roomFor_20 rfl 1 rfl ?_
    refine gtX_X1_slack C wd_1_106 dX1_roomFor_21 ?_
    refine R_iadd C dX1_roomFor_24 ?_
    refine R_imul C dX1_roomFor_25 ?_
    refine R_iload_n C dX1_roomFor_26 rfl 0 rfl ?_
    refine R_iadd C dX1_roomFor_27 ?_
    refine R_iconst (v := (1 : Int32)) C dX1_roomFor_28 (by decide) ?_
    refine R_isub C dX1_roomFor_29 ?_
    refine R_iload_n C dX1_roomFor_30 rfl 0 rfl ?_
    refine R_idiv C dX1_roomFor_31 ?_
    exact R_reti C dX1_roomFor_32
  · refine R_iconst (v := (0 : Int32)) C dX1_roomFor_15 (by decide) ?_
    exact R_reti C dX1_roomFor_16
set_option maxHeartbeats 4000000 in
set_option maxRecDepth 100000 in
theorem kX1_roomFor (l : Launch) (D : va_G) (a : Nat → Nat) (cA : ClassId) (S : St) (v1 : Int32) : CI l D (wX a cA) [(cA, .int)] yX1_roomFor (.code yX1_roomFor cX1_roomFor 3 (some .int)) 1 [.ref (a 2), .int v1] (fX1_roomFor v1 S) S := CI_of rfl (Nat.le_of_ble_eq_true rfl) (fun p e s m args below meth c A C => uX1_roomFor C v1 S)
theorem dX4_greatestLoad_0 : decode cX4_greatestLoad 0 = .ok (.iconst 0, 1) := by decide +kernel
theorem dX4_greatestLoad_1 : decode cX4_greatestLoad 1 = .ok (.istore_n 1, 1) := by decide +kernel
theorem dX4_greatestLoad_2 : decode cX4_greatestLoad 2 = .ok (.iconst 0, 1) := by decide +kernel
theorem dX4_greatestLoad_3 : decode cX4_greatestLoad 3 = .ok (.istore_n 2, 1) := by decide +kernel
theorem dX4_greatestLoad_4 : decode cX4_greatestLoad 4 = .ok (.iload_n 2, 1) := by decide +kernel
theorem dX4_greatestLoad_5 : decode cX4_greatestLoad 5 = .ok (.aload_n 0, 1) := by decide +kernel
theorem dX4_greatestLoad_6 : decode cX4_greatestLoad 6 = .ok (.getfield 33, 3) := by decide +kernel
theorem dX4_greatestLoad_9 : decode cX4_greatestLoad 9 = .ok (.if_icmp .ge 20, 3) := by decide +kernel
theorem dX4_greatestLoad_12 : decode cX4_greatestLoad 12 = .ok (.iload_n 1, 1) := by decide +kernel
theorem dX4_greatestLoad_13 : decode cX4_greatestLoad 13 = .ok (.aload_n 0, 1) := by decide +kernel
theorem dX4_greatestLoad_14 : decode cX4_greatestLoad 14 = .ok (.getfield 21, 3) := by decide +kernel
theorem dX4_greatestLoad_17 : decode cX4_greatestLoad 17 = .ok (.iload_n 2, 1) := by decide +kernel
theorem dX4_greatestLoad_18 : decode cX4_greatestLoad 18 = .ok (.iaload, 1) := by decide +kernel
theorem dX4_greatestLoad_19 : decode cX4_greatestLoad 19 = .ok (.invokestatic 66, 3) := by decide +kernel
theorem dX4_greatestLoad_22 : decode cX4_greatestLoad 22 = .ok (.istore_n 1, 1) := by decide +kernel
theorem dX4_greatestLoad_23 : decode cX4_greatestLoad 23 = .ok (.iinc 2 1, 3) := by decide +kernel
theorem dX4_greatestLoad_26 : decode cX4_greatestLoad 26 = .ok (.goto (-22), 3) := by decide +kernel
theorem dX4_greatestLoad_29 : decode cX4_greatestLoad 29 = .ok (.iload_n 1, 1) := by decide +kernel
theorem dX4_greatestLoad_30 : decode cX4_greatestLoad 30 = .ok (.ireturn, 1) := by decide +kernel
set_option maxHeartbeats 4000000 in
set_option maxRecDepth 100000 in
theorem uX4_greatestLoad_4_b (C : CX D [(cA, .int)] p s m args meth c A cX4_greatestLoad 3 RX4 (some .int)) (k4 : Int32 → Int32 → St → Rs) (h4 : ∀ (v1 v2 : Int32) (S : St), RU D (wX a cA) p l e 1 s m args below meth c A 3 (QI D (wX a cA) [(cA, .int)] A) (k4 v1 v2 S) 4 [] [(0, .ref (a 1)), (1, .int v1), (2, .int v2)] S) (v1 v2 : Int32) (S : St) : RU D (wX a cA) p l e 1 s m args below meth c A 3 (QI D (wX a cA) [(cA, .int)] A) (fX4_greatestLoad_4_b k4 v1 v2 S) 4 [] [(0, .ref (a 1)), (1, .int v1), (2, .int v2)] S := by
  unfold fX4_greatestLoad_4_b
  refine R_iload_n C dX4_greatestLoad_4 rfl 2 rfl ?_
  refine R_aload_n C dX4_greatestLoad_5 rfl 0 rfl ?_
  refine gtX_X4_hosts C wd_1_56 dX4_greatestLoad_6 ?_
  refine R_icmp_ge (tgt := 29) C dX4_greatestLoad_9 (by decide) ?_ ?_
  · refine R_iload_n C dX4_greatestLoad_29 rfl 1 rfl ?_
    exact R_reti C dX4_greatestLoad_30
  · refine R_iload_n C dX4_greatestLoad_12 rfl 1 rfl ?_
    refine R_aload_n C dX4_greatestLoad_13 rfl 0 rfl ?_
    refine gtX_X4_loads C wd_1_45 dX4_greatestLoad_14 ?_
    refine R_iload_n C dX4_greatestLoad_17 rfl 2 rfl ?_
    refine ldX4 C dX4_greatestLoad_18 ?_
    refine R_mmax C wd_2_20 wd_1_26 wd_1_3 wd_1_27 (by omega) (Nat.le_of_ble_eq_true rfl) dX4_greatestLoad_19 ?_
    refine R_let (fun x1 => ?_)
    refine R_istore_n (lv' := [(1, .int x1), (0, .ref (a 1)), (2, .int v2)]) C dX4_greatestLoad_22 rfl (by decide) rfl ?_
    refine R_iinc (v := v2 + 1) (lv' := [(2, .int (v2 + 1)), (1, .int x1), (0, .ref (a 1))]) C dX4_greatestLoad_23 2 rfl rfl (by decide) rfl ?_
    refine R_goto (tgt := 4) C dX4_greatestLoad_26 (by decide) ?_
    refine R_sub [2, 1, 0] rfl ?_
    exact h4 x1 (v2 + 1) S
set_option maxHeartbeats 4000000 in
set_option maxRecDepth 100000 in
theorem uX4_greatestLoad_4 (C : CX D [(cA, .int)] p s m args meth c A cX4_greatestLoad 3 RX4 (some .int)) : ∀ (n : Nat) (v1 v2 : Int32) (S : St), RU D (wX a cA) p l e 1 s m args below meth c A 3 (QI D (wX a cA) [(cA, .int)] A) (fX4_greatestLoad_4 n v1 v2 S) 4 [] [(0, .ref (a 1)), (1, .int v1), (2, .int v2)] S := by
  intro n
  induction n with
  | zero => intro v1 v2 S; exact R_none
  | succ n ih => intro v1 v2 S; exact uX4_greatestLoad_4_b C _ ih v1 v2 S
set_option maxHeartbeats 4000000 in
set_option maxRecDepth 100000 in
theorem uX4_greatestLoad (C : CX D [(cA, .int)] p s m args meth c A cX4_greatestLoad 3 RX4 (some .int)) (S : St) : RU D (wX a cA) p l e 1 s m args below meth c A 3 (QI D (wX a cA) [(cA, .int)] A) (fX4_greatestLoad S) 0 [] [(0, .ref (a 1))] S := by
  unfold fX4_greatestLoad
  refine R_iconst (v := (0 : Int32)) C dX4_greatestLoad_0 (by decide) ?_
  refine R_istore_n (lv' := [(1, .int (0 : Int32)), (0, .ref (a 1))]) C dX4_greatestLoad_1 rfl (by decide) rfl ?_
  refine R_iconst (v := (0 : Int32)) C dX4_greatestLoad_2 (by decide) ?_
  refine R_istore_n (lv' := [(2, .int (0 : Int32)), (1, .int (0 : Int32)), (0, .ref (a 1))]) C dX4_greatestLoad_3 rfl (by decide) rfl ?_
  refine R_sub [2, 1, 0] rfl ?_
  exact uX4_greatestLoad_4 C FU (0 : Int32) (0 : Int32) S
set_option maxHeartbeats 4000000 in
set_option maxRecDepth 100000 in
theorem kX4_greatestLoad (l : Launch) (D : va_G) (a : Nat → Nat) (cA : ClassId) (S : St) : CI l D (wX a cA) [(cA, .int)] yX4_greatestLoad (.code yX4_greatestLoad cX4_greatestLoad 3 (some .int)) 1 [.ref (a 1)] (fX4_greatestLoad S) S := CI_of rfl (Nat.le_of_ble_eq_true rfl) (fun p e s m args below meth c A C => uX4_greatestLoad C S)
theorem dX4_hasCopy_0 : decode cX4_hasCopy 0 = .ok (.aload_n 0, 1) := by decide +kernel
theorem dX4_hasCopy_1 : decode cX4_hasCopy 1 = .ok (.getfield 27, 3) := by decide +kernel
theorem dX4_hasCopy_4 : decode cX4_hasCopy 4 = .ok (.iload_n 1, 1) := by decide +kernel
theorem dX4_hasCopy_5 : decode cX4_hasCopy 5 = .ok (.iaload, 1) := by decide +kernel
theorem dX4_hasCopy_6 : decode cX4_hasCopy 6 = .ok (.iload_n 2, 1) := by decide +kernel
theorem dX4_hasCopy_7 : decode cX4_hasCopy 7 = .ok (.ishr, 1) := by decide +kernel
theorem dX4_hasCopy_8 : decode cX4_hasCopy 8 = .ok (.iconst 1, 1) := by decide +kernel
theorem dX4_hasCopy_9 : decode cX4_hasCopy 9 = .ok (.iand, 1) := by decide +kernel
theorem dX4_hasCopy_10 : decode cX4_hasCopy 10 = .ok (.iconst 1, 1) := by decide +kernel
theorem dX4_hasCopy_11 : decode cX4_hasCopy 11 = .ok (.if_icmp .ne 7, 3) := by decide +kernel
theorem dX4_hasCopy_14 : decode cX4_hasCopy 14 = .ok (.iconst 1, 1) := by decide +kernel
theorem dX4_hasCopy_15 : decode cX4_hasCopy 15 = .ok (.goto 4, 3) := by decide +kernel
theorem dX4_hasCopy_18 : decode cX4_hasCopy 18 = .ok (.iconst 0, 1) := by decide +kernel
theorem dX4_hasCopy_19 : decode cX4_hasCopy 19 = .ok (.ireturn, 1) := by decide +kernel
set_option maxHeartbeats 4000000 in
set_option maxRecDepth 100000 in
theorem uX4_hasCopy_19 (C : CX D [(cA, .int)] p s m args meth c A cX4_hasCopy 3 RX4 (some .boolean)) (t0 : Int32) (S : St) : RU D (wX a cA) p l e 1 s m args below meth c A 3 (QI D (wX a cA) [(cA, .int)] A) (fX4_hasCopy_19 t0 S) 19 [.int t0] [] S := by
  unfold fX4_hasCopy_19
  exact R_retz C dX4_hasCopy_19
set_option maxHeartbeats 4000000 in
set_option maxRecDepth 100000 in
theorem uX4_hasCopy (C : CX D [(cA, .int)] p s m args meth c A cX4_hasCopy 3 RX4 (some .boolean)) (v1 v2 : Int32) (S : St) : RU D (wX a cA) p l e 1 s m args below meth c A 3 (QI D (wX a cA) [(cA, .int)] A) (fX4_hasCopy v1 v2 S) 0 [] [(0, .ref (a 1)), (1, .int v1), (2, .int v2)] S := by
  unfold fX4_hasCopy
  refine R_aload_n C dX4_hasCopy_0 rfl 0 rfl ?_
  refine gtX_X4_copyBits C wd_1_53 dX4_hasCopy_1 ?_
  refine R_iload_n C dX4_hasCopy_4 rfl 1 rfl ?_
  refine ldX6 C dX4_hasCopy_5 ?_
  refine R_iload_n C dX4_hasCopy_6 rfl 2 rfl ?_
  refine R_ishr C dX4_hasCopy_7 ?_
  refine R_iconst (v := (1 : Int32)) C dX4_hasCopy_8 (by decide) ?_
  refine R_iand C dX4_hasCopy_9 ?_
  refine R_iconst (v := (1 : Int32)) C dX4_hasCopy_10 (by decide) ?_
  refine R_icmp_ne (tgt := 18) C dX4_hasCopy_11 (by decide) ?_ ?_
  · refine R_iconst (v := (1 : Int32)) C dX4_hasCopy_14 (by decide) ?_
    refine R_goto (tgt := 19) C dX4_hasCopy_15 (by decide) ?_
    refine R_sub [] rfl ?_
    exact uX4_hasCopy_19 C (1 : Int32) S
  · refine R_iconst (v := (0 : Int32)) C dX4_hasCopy_18 (by decide) ?_
    refine R_sub [] rfl ?_
    exact uX4_hasCopy_19 C (0 : Int32) S
set_option maxHeartbeats 4000000 in
set_option maxRecDepth 100000 in
theorem kX4_hasCopy (l : Launch) (D : va_G) (a : Nat → Nat) (cA : ClassId) (S : St) (v1 v2 : Int32) : CI l D (wX a cA) [(cA, .int)] yX4_hasCopy (.code yX4_hasCopy cX4_hasCopy 3 (some .boolean)) 1 [.ref (a 1), .int v1, .int v2] (fX4_hasCopy v1 v2 S) S := CI_of rfl (Nat.le_of_ble_eq_true rfl) (fun p e s m args below meth c A C => uX4_hasCopy C v1 v2 S)
theorem dX1_scoreOfCopies_0 : decode cX1_scoreOfCopies 0 = .ok (.aload_n 0, 1) := by decide +kernel
theorem dX1_scoreOfCopies_1 : decode cX1_scoreOfCopies 1 = .ok (.getfield 21, 3) := by decide +kernel
theorem dX1_scoreOfCopies_4 : decode cX1_scoreOfCopies 4 = .ok (.getfield 67, 3) := by decide +kernel
theorem dX1_scoreOfCopies_7 : decode cX1_scoreOfCopies 7 = .ok (.iload_n 2, 1) := by decide +kernel
theorem dX1_scoreOfCopies_8 : decode cX1_scoreOfCopies 8 = .ok (.iaload, 1) := by decide +kernel
theorem dX1_scoreOfCopies_9 : decode cX1_scoreOfCopies 9 = .ok (.iconst 1, 1) := by decide +kernel
theorem dX1_scoreOfCopies_10 : decode cX1_scoreOfCopies 10 = .ok (.iadd, 1) := by decide +kernel
theorem dX1_scoreOfCopies_11 : decode cX1_scoreOfCopies 11 = .ok (.istore 4, 2) := by decide +kernel
theorem dX1_scoreOfCopies_13 : decode cX1_scoreOfCopies 13 = .ok (.aload_n 0, 1) := by decide +kernel
theorem dX1_scoreOfCopies_14 : decode cX1_scoreOfCopies 14 = .ok (.getfield 21, 3) := by decide +kernel
theorem dX1_scoreOfCopies_17 : decode cX1_scoreOfCopies 17 = .ok (.getfield 67, 3) := by decide +kernel
theorem dX1_scoreOfCopies_20 : decode cX1_scoreOfCopies 20 = .ok (.iload_n 3, 1) := by decide +kernel
theorem dX1_scoreOfCopies_21 : decode cX1_scoreOfCopies 21 = .ok (.iaload, 1) := by decide +kernel
theorem dX1_scoreOfCopies_22 : decode cX1_scoreOfCopies 22 = .ok (.iconst 1, 1) := by decide +kernel
theorem dX1_scoreOfCopies_23 : decode cX1_scoreOfCopies 23 = .ok (.iadd, 1) := by decide +kernel
theorem dX1_scoreOfCopies_24 : decode cX1_scoreOfCopies 24 = .ok (.istore 5, 2) := by decide +kernel
theorem dX1_scoreOfCopies_26 : decode cX1_scoreOfCopies 26 = .ok (.iconst 2, 1) := by decide +kernel
theorem dX1_scoreOfCopies_27 : decode cX1_scoreOfCopies 27 = .ok (.iload 4, 2) := by decide +kernel
theorem dX1_scoreOfCopies_29 : decode cX1_scoreOfCopies 29 = .ok (.iload 5, 2) := by decide +kernel
theorem dX1_scoreOfCopies_31 : decode cX1_scoreOfCopies 31 = .ok (.iadd, 1) := by decide +kernel
theorem dX1_scoreOfCopies_32 : decode cX1_scoreOfCopies 32 = .ok (.imul, 1) := by decide +kernel
theorem dX1_scoreOfCopies_33 : decode cX1_scoreOfCopies 33 = .ok (.istore 6, 2) := by decide +kernel
theorem dX1_scoreOfCopies_35 : decode cX1_scoreOfCopies 35 = .ok (.iconst 0, 1) := by decide +kernel
theorem dX1_scoreOfCopies_36 : decode cX1_scoreOfCopies 36 = .ok (.istore 7, 2) := by decide +kernel
theorem dX1_scoreOfCopies_38 : decode cX1_scoreOfCopies 38 = .ok (.aload_n 0, 1) := by decide +kernel
theorem dX1_scoreOfCopies_39 : decode cX1_scoreOfCopies 39 = .ok (.getfield 21, 3) := by decide +kernel
theorem dX1_scoreOfCopies_42 : decode cX1_scoreOfCopies 42 = .ok (.iload_n 2, 1) := by decide +kernel
theorem dX1_scoreOfCopies_43 : decode cX1_scoreOfCopies 43 = .ok (.iload_n 1, 1) := by decide +kernel
theorem dX1_scoreOfCopies_44 : decode cX1_scoreOfCopies 44 = .ok (.invokevirtual 70, 3) := by decide +kernel
theorem dX1_scoreOfCopies_47 : decode cX1_scoreOfCopies 47 = .ok (.ifCond .eq 13, 3) := by decide +kernel
theorem dX1_scoreOfCopies_50 : decode cX1_scoreOfCopies 50 = .ok (.iload 7, 2) := by decide +kernel
theorem dX1_scoreOfCopies_52 : decode cX1_scoreOfCopies 52 = .ok (.iload 6, 2) := by decide +kernel
theorem dX1_scoreOfCopies_54 : decode cX1_scoreOfCopies 54 = .ok (.iload 4, 2) := by decide +kernel
theorem dX1_scoreOfCopies_56 : decode cX1_scoreOfCopies 56 = .ok (.isub, 1) := by decide +kernel
theorem dX1_scoreOfCopies_57 : decode cX1_scoreOfCopies 57 = .ok (.iadd, 1) := by decide +kernel
theorem dX1_scoreOfCopies_58 : decode cX1_scoreOfCopies 58 = .ok (.istore 7, 2) := by decide +kernel
theorem dX1_scoreOfCopies_60 : decode cX1_scoreOfCopies 60 = .ok (.aload_n 0, 1) := by decide +kernel
theorem dX1_scoreOfCopies_61 : decode cX1_scoreOfCopies 61 = .ok (.getfield 21, 3) := by decide +kernel
theorem dX1_scoreOfCopies_64 : decode cX1_scoreOfCopies 64 = .ok (.iload_n 3, 1) := by decide +kernel
theorem dX1_scoreOfCopies_65 : decode cX1_scoreOfCopies 65 = .ok (.iload_n 1, 1) := by decide +kernel
theorem dX1_scoreOfCopies_66 : decode cX1_scoreOfCopies 66 = .ok (.invokevirtual 70, 3) := by decide +kernel
theorem dX1_scoreOfCopies_69 : decode cX1_scoreOfCopies 69 = .ok (.ifCond .eq 13, 3) := by decide +kernel
theorem dX1_scoreOfCopies_72 : decode cX1_scoreOfCopies 72 = .ok (.iload 7, 2) := by decide +kernel
theorem dX1_scoreOfCopies_74 : decode cX1_scoreOfCopies 74 = .ok (.iload 6, 2) := by decide +kernel
theorem dX1_scoreOfCopies_76 : decode cX1_scoreOfCopies 76 = .ok (.iload 5, 2) := by decide +kernel
theorem dX1_scoreOfCopies_78 : decode cX1_scoreOfCopies 78 = .ok (.isub, 1) := by decide +kernel
theorem dX1_scoreOfCopies_79 : decode cX1_scoreOfCopies 79 = .ok (.iadd, 1) := by decide +kernel
theorem dX1_scoreOfCopies_80 : decode cX1_scoreOfCopies 80 = .ok (.istore 7, 2) := by decide +kernel
theorem dX1_scoreOfCopies_82 : decode cX1_scoreOfCopies 82 = .ok (.iload 7, 2) := by decide +kernel
theorem dX1_scoreOfCopies_84 : decode cX1_scoreOfCopies 84 = .ok (.ireturn, 1) := by decide +kernel
set_option maxHeartbeats 4000000 in
set_option maxRecDepth 100000 in
theorem uX1_scoreOfCopies_82 (C : CX D [(cA, .int)] p s m args meth c A cX1_scoreOfCopies 8 RX1 (some .int)) (v7 : Int32) (S : St) : RU D (wX a cA) p l e 2 s m args below meth c A 8 (QI D (wX a cA) [(cA, .int)] A) (fX1_scoreOfCopies_82 v7 S) 82 [] [(7, .int v7)] S := by
  unfold fX1_scoreOfCopies_82
  refine R_iload C dX1_scoreOfCopies_82 0 rfl ?_
  exact R_reti C dX1_scoreOfCopies_84
set_option maxHeartbeats 4000000 in
set_option maxRecDepth 100000 in
theorem uX1_scoreOfCopies_60 (C : CX D [(cA, .int)] p s m args meth c A cX1_scoreOfCopies 8 RX1 (some .int)) (v1 v3 v5 v6 v7 : Int32) (S : St) : RU D (wX a cA) p l e 2 s m args below meth c A 8 (QI D (wX a cA) [(cA, .int)] A) (fX1_scoreOfCopies_60 v1 v3 v5 v6 v7 S) 60 [] [(0, .ref (a 2)), (1, .int v1), (3, .int v3), (5, .int v5), (6, .int v6), (7, .int v7)] S := by
  unfold fX1_scoreOfCopies_60
  refine R_aload_n C dX1_scoreOfCopies_60 rfl 0 rfl ?_
  refine gtX_X1_net C wd_1_103 dX1_scoreOfCopies_61 ?_
  refine R_iload_n C dX1_scoreOfCopies_64 rfl 2 rfl ?_
  refine R_iload_n C dX1_scoreOfCopies_65 rfl 1 rfl ?_
  refine R_calli (As := [.int v3, .int v1]) (st := []) C (kX4_hasCopy l D a cA S v3 v1) (by decide) (by decide) wd_2_29 kwX4_hasCopy 1 rfl rfl rfl rfl (Nat.le_of_ble_eq_true rfl) dX1_scoreOfCopies_66 (fun r1 S2 => ?_)
  refine R_if_eq (tgt := 82) C dX1_scoreOfCopies_69 (by decide) ?_ ?_
  · refine R_sub [5] rfl ?_
    exact uX1_scoreOfCopies_82 C v7 S2
  · refine R_iload C dX1_scoreOfCopies_72 5 rfl ?_
    refine R_iload C dX1_scoreOfCopies_74 4 rfl ?_
    refine R_iload C dX1_scoreOfCopies_76 3 rfl ?_
    refine R_isub C dX1_scoreOfCopies_78 ?_
    refine R_iadd C dX1_scoreOfCopies_79 ?_
    refine R_let (fun x3 => ?_)
    refine R_istore (lv' := [(7, .int x3), (0, .ref (a 2)), (1, .int v1), (3, .int v3), (5, .int v5), (6, .int v6)]) C dX1_scoreOfCopies_80 (by decide) rfl ?_
    refine R_sub [0] rfl ?_
    exact uX1_scoreOfCopies_82 C x3 S2
set_option maxHeartbeats 4000000 in
set_option maxRecDepth 100000 in
theorem uX1_scoreOfCopies (C : CX D [(cA, .int)] p s m args meth c A cX1_scoreOfCopies 8 RX1 (some .int)) (v1 v2 v3 : Int32) (S : St) : RU D (wX a cA) p l e 2 s m args below meth c A 8 (QI D (wX a cA) [(cA, .int)] A) (fX1_scoreOfCopies v1 v2 v3 S) 0 [] [(0, .ref (a 2)), (1, .int v1), (2, .int v2), (3, .int v3)] S := by
  unfold fX1_scoreOfCopies
  refine R_aload_n C dX1_scoreOfCopies_0 rfl 0 rfl ?_
  refine gtX_X1_net C wd_1_103 dX1_scoreOfCopies_1 ?_
  refine gtX_X4_degrees C wd_1_50 dX1_scoreOfCopies_4 ?_
  refine R_iload_n C dX1_scoreOfCopies_7 rfl 2 rfl ?_
  refine ldX5 C dX1_scoreOfCopies_8 ?_
  refine R_iconst (v := (1 : Int32)) C dX1_scoreOfCopies_9 (by decide) ?_
  refine R_iadd C dX1_scoreOfCopies_10 ?_
  refine R_let (fun x1 => ?_)
  refine R_istore (lv' := [(4, .int x1), (0, .ref (a 2)), (1, .int v1), (2, .int v2), (3, .int v3)]) C dX1_scoreOfCopies_11 (by decide) rfl ?_
  refine R_aload_n C dX1_scoreOfCopies_13 rfl 1 rfl ?_
  refine gtX_X1_net C wd_1_103 dX1_scoreOfCopies_14 ?_
  refine gtX_X4_degrees C wd_1_50 dX1_scoreOfCopies_17 ?_
  refine R_iload_n C dX1_scoreOfCopies_20 rfl 4 rfl ?_
  refine ldX5 C dX1_scoreOfCopies_21 ?_
  refine R_iconst (v := (1 : Int32)) C dX1_scoreOfCopies_22 (by decide) ?_
  refine R_iadd C dX1_scoreOfCopies_23 ?_
  refine R_let (fun x2 => ?_)
  refine R_istore (lv' := [(5, .int x2), (4, .int x1), (0, .ref (a 2)), (1, .int v1), (2, .int v2), (3, .int v3)]) C dX1_scoreOfCopies_24 (by decide) rfl ?_
  refine R_iconst (v := (2 : Int32)) C dX1_scoreOfCopies_26 (by decide) ?_
  refine R_iload C dX1_scoreOfCopies_27 1 rfl ?_
  refine R_iload C dX1_scoreOfCopies_29 0 rfl ?_
  refine R_iadd C dX1_scoreOfCopies_31 ?_
  refine R_imul C dX1_scoreOfCopies_32 ?_
  refine R_let (fun x3 => ?_)
  refine R_istore (lv' := [(6, .int x3), (5, .int x2), (4, .int x1), (0, .ref (a 2)), (1, .int v1), (2, .int v2), (3, .int v3)]) C dX1_scoreOfCopies_33 (by decide) rfl ?_
  refine R_iconst (v := (0 : Int32)) C dX1_scoreOfCopies_35 (by decide) ?_
  refine R_istore (lv' := [(7, .int (0 : Int32)), (6, .int x3), (5, .int x2), (4, .int x1), (0, .ref (a 2)), (1, .int v1), (2, .int v2), (3, .int v3)]) C dX1_scoreOfCopies_36 (by decide) rfl ?_
  refine R_aload_n C dX1_scoreOfCopies_38 rfl 4 rfl ?_
  refine gtX_X1_net C wd_1_103 dX1_scoreOfCopies_39 ?_
  refine R_iload_n C dX1_scoreOfCopies_42 rfl 6 rfl ?_
  refine R_iload_n C dX1_scoreOfCopies_43 rfl 5 rfl ?_
  refine R_calli (As := [.int v2, .int v1]) (st := []) C (kX4_hasCopy l D a cA S v2 v1) (by decide) (by decide) wd_2_29 kwX4_hasCopy 1 rfl rfl rfl rfl (Nat.le_of_ble_eq_true rfl) dX1_scoreOfCopies_44 (fun r4 S5 => ?_)
  refine R_if_eq (tgt := 60) C dX1_scoreOfCopies_47 (by decide) ?_ ?_
  · refine R_sub [4, 5, 7, 2, 1, 0] rfl ?_
    exact uX1_scoreOfCopies_60 C v1 v3 x2 x3 (0 : Int32) S5
  · refine R_iload C dX1_scoreOfCopies_50 0 rfl ?_
    refine R_iload C dX1_scoreOfCopies_52 1 rfl ?_
    refine R_iload C dX1_scoreOfCopies_54 3 rfl ?_
    refine R_isub C dX1_scoreOfCopies_56 ?_
    refine R_iadd C dX1_scoreOfCopies_57 ?_
    refine R_let (fun x6 => ?_)
    refine R_istore (lv' := [(7, .int x6), (6, .int x3), (5, .int x2), (4, .int x1), (0, .ref (a 2)), (1, .int v1), (2, .int v2), (3, .int v3)]) C dX1_scoreOfCopies_58 (by decide) rfl ?_
    refine R_sub [4, 5, 7, 2, 1, 0] rfl ?_
    exact uX1_scoreOfCopies_60 C v1 v3 x2 x3 x6 S5
set_option maxHeartbeats 4000000 in
set_option maxRecDepth 100000 in
theorem kX1_scoreOfCopies (l : Launch) (D : va_G) (a : Nat → Nat) (cA : ClassId) (S : St) (v1 v2 v3 : Int32) : CI l D (wX a cA) [(cA, .int)] yX1_scoreOfCopies (.code yX1_scoreOfCopies cX1_scoreOfCopies 8 (some .int)) 2 [.ref (a 2), .int v1, .int v2, .int v3] (fX1_scoreOfCopies v1 v2 v3 S) S := CI_of rfl (Nat.le_of_ble_eq_true rfl) (fun p e s m args below meth c A C => uX1_scoreOfCopies C v1 v2 v3 S)
theorem dX1_scoreOf_0 : decode cX1_scoreOf 0 = .ok (.aload_n 0, 1) := by decide +kernel
theorem dX1_scoreOf_1 : decode cX1_scoreOf 1 = .ok (.getfield 9, 3) := by decide +kernel
theorem dX1_scoreOf_4 : decode cX1_scoreOf 4 = .ok (.lookupswitch 62 #[(0, 28), (1, 31)], 28) := by decide +kernel
theorem dX1_scoreOf_32 : decode cX1_scoreOf 32 = .ok (.iload 4, 2) := by decide +kernel
theorem dX1_scoreOf_34 : decode cX1_scoreOf 34 = .ok (.ireturn, 1) := by decide +kernel
theorem dX1_scoreOf_35 : decode cX1_scoreOf 35 = .ok (.aload_n 0, 1) := by decide +kernel
theorem dX1_scoreOf_36 : decode cX1_scoreOf 36 = .ok (.getfield 21, 3) := by decide +kernel
theorem dX1_scoreOf_39 : decode cX1_scoreOf 39 = .ok (.getfield 25, 3) := by decide +kernel
theorem dX1_scoreOf_42 : decode cX1_scoreOf 42 = .ok (.ifCond .le 22, 3) := by decide +kernel
theorem dX1_scoreOf_45 : decode cX1_scoreOf 45 = .ok (.iload_n 2, 1) := by decide +kernel
theorem dX1_scoreOf_46 : decode cX1_scoreOf 46 = .ok (.iload_n 3, 1) := by decide +kernel
theorem dX1_scoreOf_47 : decode cX1_scoreOf 47 = .ok (.iadd, 1) := by decide +kernel
theorem dX1_scoreOf_48 : decode cX1_scoreOf 48 = .ok (.aload_n 0, 1) := by decide +kernel
theorem dX1_scoreOf_49 : decode cX1_scoreOf 49 = .ok (.getfield 21, 3) := by decide +kernel
theorem dX1_scoreOf_52 : decode cX1_scoreOf 52 = .ok (.getfield 25, 3) := by decide +kernel
theorem dX1_scoreOf_55 : decode cX1_scoreOf 55 = .ok (.irem, 1) := by decide +kernel
theorem dX1_scoreOf_56 : decode cX1_scoreOf 56 = .ok (.iload_n 1, 1) := by decide +kernel
theorem dX1_scoreOf_57 : decode cX1_scoreOf 57 = .ok (.if_icmp .ne 7, 3) := by decide +kernel
theorem dX1_scoreOf_60 : decode cX1_scoreOf 60 = .ok (.iconst 1, 1) := by decide +kernel
theorem dX1_scoreOf_61 : decode cX1_scoreOf 61 = .ok (.goto 4, 3) := by decide +kernel
theorem dX1_scoreOf_64 : decode cX1_scoreOf 64 = .ok (.iconst 0, 1) := by decide +kernel
theorem dX1_scoreOf_65 : decode cX1_scoreOf 65 = .ok (.ireturn, 1) := by decide +kernel
theorem dX1_scoreOf_66 : decode cX1_scoreOf 66 = .ok (.bipush 10, 2) := by decide +kernel
theorem dX1_scoreOf_68 : decode cX1_scoreOf 68 = .ok (.aload_n 0, 1) := by decide +kernel
theorem dX1_scoreOf_69 : decode cX1_scoreOf 69 = .ok (.iload_n 1, 1) := by decide +kernel
theorem dX1_scoreOf_70 : decode cX1_scoreOf 70 = .ok (.iload_n 2, 1) := by decide +kernel
theorem dX1_scoreOf_71 : decode cX1_scoreOf 71 = .ok (.iload_n 3, 1) := by decide +kernel
theorem dX1_scoreOf_72 : decode cX1_scoreOf 72 = .ok (.invokevirtual 63, 3) := by decide +kernel
theorem dX1_scoreOf_75 : decode cX1_scoreOf 75 = .ok (.imul, 1) := by decide +kernel
theorem dX1_scoreOf_76 : decode cX1_scoreOf 76 = .ok (.aload_n 0, 1) := by decide +kernel
theorem dX1_scoreOf_77 : decode cX1_scoreOf 77 = .ok (.getfield 18, 3) := by decide +kernel
theorem dX1_scoreOf_80 : decode cX1_scoreOf 80 = .ok (.iload 4, 2) := by decide +kernel
theorem dX1_scoreOf_82 : decode cX1_scoreOf 82 = .ok (.imul, 1) := by decide +kernel
theorem dX1_scoreOf_83 : decode cX1_scoreOf 83 = .ok (.iadd, 1) := by decide +kernel
theorem dX1_scoreOf_84 : decode cX1_scoreOf 84 = .ok (.ireturn, 1) := by decide +kernel
set_option maxHeartbeats 4000000 in
set_option maxRecDepth 100000 in
theorem uX1_scoreOf_65 (C : CX D [(cA, .int)] p s m args meth c A cX1_scoreOf 5 RX1 (some .int)) (t0 : Int32) (S : St) : RU D (wX a cA) p l e 3 s m args below meth c A 5 (QI D (wX a cA) [(cA, .int)] A) (fX1_scoreOf_65 t0 S) 65 [.int t0] [] S := by
  unfold fX1_scoreOf_65
  exact R_reti C dX1_scoreOf_65
set_option maxHeartbeats 4000000 in
set_option maxRecDepth 100000 in
theorem uX1_scoreOf_64 (C : CX D [(cA, .int)] p s m args meth c A cX1_scoreOf 5 RX1 (some .int)) (S : St) : RU D (wX a cA) p l e 3 s m args below meth c A 5 (QI D (wX a cA) [(cA, .int)] A) (fX1_scoreOf_64 S) 64 [] [] S := by
  unfold fX1_scoreOf_64
  refine R_iconst (v := (0 : Int32)) C dX1_scoreOf_64 (by decide) ?_
  exact uX1_scoreOf_65 C (0 : Int32) S
set_option maxHeartbeats 4000000 in
set_option maxRecDepth 100000 in
theorem uX1_scoreOf (C : CX D [(cA, .int)] p s m args meth c A cX1_scoreOf 5 RX1 (some .int)) (v1 v2 v3 v4 : Int32) (S : St) : RU D (wX a cA) p l e 3 s m args below meth c A 5 (QI D (wX a cA) [(cA, .int)] A) (fX1_scoreOf v1 v2 v3 v4 S) 0 [] [(0, .ref (a 2)), (1, .int v1), (2, .int v2), (3, .int v3), (4, .int v4)] S := by
  unfold fX1_scoreOf
  refine R_aload_n C dX1_scoreOf_0 rfl 0 rfl ?_
  refine gtX_X1_ruleNow C wd_1_104 dX1_scoreOf_1 ?_
  refine R_eq (v := 0) (fun _ => ?_) (fun q0 => ?_)
  · refine R_lsw (tgt := 32) C dX1_scoreOf_4 (by decide) (by decide +kernel : _ = (28 : Int)) (by decide) ?_
    refine R_iload C dX1_scoreOf_32 4 rfl ?_
    exact R_reti C dX1_scoreOf_34
  refine R_eq (v := 1) (fun _ => ?_) (fun q1 => ?_)
  · refine R_lsw (tgt := 35) C dX1_scoreOf_4 (by decide) (by decide +kernel : _ = (31 : Int)) (by decide) ?_
    refine R_aload_n C dX1_scoreOf_35 rfl 0 rfl ?_
    refine gtX_X1_net C wd_1_103 dX1_scoreOf_36 ?_
    refine gtX_X4_hosts C wd_1_57 dX1_scoreOf_39 ?_
    refine R_if_le (tgt := 64) C dX1_scoreOf_42 (by decide) ?_ ?_
    · refine R_sub [] rfl ?_
      exact uX1_scoreOf_64 C S
    · refine R_iload_n C dX1_scoreOf_45 rfl 2 rfl ?_
      refine R_iload_n C dX1_scoreOf_46 rfl 3 rfl ?_
      refine R_iadd C dX1_scoreOf_47 ?_
      refine R_aload_n C dX1_scoreOf_48 rfl 0 rfl ?_
      refine gtX_X1_net C wd_1_103 dX1_scoreOf_49 ?_
      refine gtX_X4_hosts C wd_1_57 dX1_scoreOf_52 ?_
      refine R_irem C dX1_scoreOf_55 ?_
      refine R_iload_n C dX1_scoreOf_56 rfl 1 rfl ?_
      refine R_icmp_ne (tgt := 64) C dX1_scoreOf_57 (by decide) ?_ ?_
      · refine R_iconst (v := (1 : Int32)) C dX1_scoreOf_60 (by decide) ?_
        refine R_goto (tgt := 65) C dX1_scoreOf_61 (by decide) ?_
        refine R_sub [] rfl ?_
        exact uX1_scoreOf_65 C (1 : Int32) S
      · refine R_sub [] rfl ?_
        exact uX1_scoreOf_64 C S
  refine R_lsw (tgt := 66) C dX1_scoreOf_4 (by decide) (off := 62) (by rw [show (_ : List (Int × Int)) = _ from rfl, lv_osw q0 rfl]; rw [show (_ : List (Int × Int)) = _ from rfl, lv_osw q1 rfl]; rfl) (by decide) ?_
  refine R_bipush (v := (10 : Int32)) C dX1_scoreOf_66 (by decide) ?_
  refine R_aload_n C dX1_scoreOf_68 rfl 0 rfl ?_
  refine R_iload_n C dX1_scoreOf_69 rfl 1 rfl ?_
  refine R_iload_n C dX1_scoreOf_70 rfl 2 rfl ?_
  refine R_iload_n C dX1_scoreOf_71 rfl 3 rfl ?_
  refine R_calli (As := [.int v1, .int v2, .int v3]) (st := [.int (10 : Int32)]) C (kX1_scoreOfCopies l D a cA S v1 v2 v3) (by decide) (by decide) wd_2_25 kwX1_scoreOfCopies 2 rfl rfl rfl rfl (Nat.le_of_ble_eq_true rfl) dX1_scoreOf_72 (fun r1 S2 => ?_)
  refine R_imul C dX1_scoreOf_75 ?_
  refine R_aload_n C dX1_scoreOf_76 rfl 0 rfl ?_
  refine gtX_X1_lean C wd_1_108 dX1_scoreOf_77 ?_
  refine R_iload C dX1_scoreOf_80 4 rfl ?_
  refine R_imul C dX1_scoreOf_82 ?_
  refine R_iadd C dX1_scoreOf_83 ?_
  exact R_reti C dX1_scoreOf_84
set_option maxHeartbeats 4000000 in
set_option maxRecDepth 100000 in
theorem kX1_scoreOf (l : Launch) (D : va_G) (a : Nat → Nat) (cA : ClassId) (S : St) (v1 v2 v3 v4 : Int32) : CI l D (wX a cA) [(cA, .int)] yX1_scoreOf (.code yX1_scoreOf cX1_scoreOf 5 (some .int)) 3 [.ref (a 2), .int v1, .int v2, .int v3, .int v4] (fX1_scoreOf v1 v2 v3 v4 S) S := CI_of rfl (Nat.le_of_ble_eq_true rfl) (fun p e s m args below meth c A C => uX1_scoreOf C v1 v2 v3 v4 S)
theorem dX1_chooseHost_0 : decode cX1_chooseHost 0 = .ok (.aload_n 0, 1) := by decide +kernel
theorem dX1_chooseHost_1 : decode cX1_chooseHost 1 = .ok (.aload_n 0, 1) := by decide +kernel
theorem dX1_chooseHost_2 : decode cX1_chooseHost 2 = .ok (.getfield 21, 3) := by decide +kernel
theorem dX1_chooseHost_5 : decode cX1_chooseHost 5 = .ok (.getfield 45, 3) := by decide +kernel
theorem dX1_chooseHost_8 : decode cX1_chooseHost 8 = .ok (.iconst 1, 1) := by decide +kernel
theorem dX1_chooseHost_9 : decode cX1_chooseHost 9 = .ok (.iadd, 1) := by decide +kernel
theorem dX1_chooseHost_10 : decode cX1_chooseHost 10 = .ok (.invokevirtual 48, 3) := by decide +kernel
theorem dX1_chooseHost_13 : decode cX1_chooseHost 13 = .ok (.istore_n 3, 1) := by decide +kernel
theorem dX1_chooseHost_14 : decode cX1_chooseHost 14 = .ok (.aload_n 0, 1) := by decide +kernel
theorem dX1_chooseHost_15 : decode cX1_chooseHost 15 = .ok (.getfield 21, 3) := by decide +kernel
theorem dX1_chooseHost_18 : decode cX1_chooseHost 18 = .ok (.invokevirtual 52, 3) := by decide +kernel
theorem dX1_chooseHost_21 : decode cX1_chooseHost 21 = .ok (.istore 4, 2) := by decide +kernel
theorem dX1_chooseHost_23 : decode cX1_chooseHost 23 = .ok (.iconst (-1), 1) := by decide +kernel
theorem dX1_chooseHost_24 : decode cX1_chooseHost 24 = .ok (.istore 5, 2) := by decide +kernel
theorem dX1_chooseHost_26 : decode cX1_chooseHost 26 = .ok (.iconst 0, 1) := by decide +kernel
theorem dX1_chooseHost_27 : decode cX1_chooseHost 27 = .ok (.istore 6, 2) := by decide +kernel
theorem dX1_chooseHost_29 : decode cX1_chooseHost 29 = .ok (.iconst 0, 1) := by decide +kernel
theorem dX1_chooseHost_30 : decode cX1_chooseHost 30 = .ok (.istore 7, 2) := by decide +kernel
theorem dX1_chooseHost_32 : decode cX1_chooseHost 32 = .ok (.iload 7, 2) := by decide +kernel
theorem dX1_chooseHost_34 : decode cX1_chooseHost 34 = .ok (.aload_n 0, 1) := by decide +kernel
theorem dX1_chooseHost_35 : decode cX1_chooseHost 35 = .ok (.getfield 21, 3) := by decide +kernel
theorem dX1_chooseHost_38 : decode cX1_chooseHost 38 = .ok (.getfield 25, 3) := by decide +kernel
theorem dX1_chooseHost_41 : decode cX1_chooseHost 41 = .ok (.if_icmp .ge 70, 3) := by decide +kernel
theorem dX1_chooseHost_44 : decode cX1_chooseHost 44 = .ok (.aload_n 0, 1) := by decide +kernel
theorem dX1_chooseHost_45 : decode cX1_chooseHost 45 = .ok (.getfield 21, 3) := by decide +kernel
theorem dX1_chooseHost_48 : decode cX1_chooseHost 48 = .ok (.getfield 56, 3) := by decide +kernel
theorem dX1_chooseHost_51 : decode cX1_chooseHost 51 = .ok (.iload 7, 2) := by decide +kernel
theorem dX1_chooseHost_53 : decode cX1_chooseHost 53 = .ok (.iaload, 1) := by decide +kernel
theorem dX1_chooseHost_54 : decode cX1_chooseHost 54 = .ok (.iload_n 3, 1) := by decide +kernel
theorem dX1_chooseHost_55 : decode cX1_chooseHost 55 = .ok (.if_icmp .lt 6, 3) := by decide +kernel
theorem dX1_chooseHost_58 : decode cX1_chooseHost 58 = .ok (.goto 47, 3) := by decide +kernel
theorem dX1_chooseHost_61 : decode cX1_chooseHost 61 = .ok (.aload_n 0, 1) := by decide +kernel
theorem dX1_chooseHost_62 : decode cX1_chooseHost 62 = .ok (.iload 7, 2) := by decide +kernel
theorem dX1_chooseHost_64 : decode cX1_chooseHost 64 = .ok (.iload_n 1, 1) := by decide +kernel
theorem dX1_chooseHost_65 : decode cX1_chooseHost 65 = .ok (.iload_n 2, 1) := by decide +kernel
theorem dX1_chooseHost_66 : decode cX1_chooseHost 66 = .ok (.iload 4, 2) := by decide +kernel
theorem dX1_chooseHost_68 : decode cX1_chooseHost 68 = .ok (.aload_n 0, 1) := by decide +kernel
theorem dX1_chooseHost_69 : decode cX1_chooseHost 69 = .ok (.getfield 21, 3) := by decide +kernel
theorem dX1_chooseHost_72 : decode cX1_chooseHost 72 = .ok (.getfield 56, 3) := by decide +kernel
theorem dX1_chooseHost_75 : decode cX1_chooseHost 75 = .ok (.iload 7, 2) := by decide +kernel
theorem dX1_chooseHost_77 : decode cX1_chooseHost 77 = .ok (.iaload, 1) := by decide +kernel
theorem dX1_chooseHost_78 : decode cX1_chooseHost 78 = .ok (.isub, 1) := by decide +kernel
theorem dX1_chooseHost_79 : decode cX1_chooseHost 79 = .ok (.invokevirtual 59, 3) := by decide +kernel
theorem dX1_chooseHost_82 : decode cX1_chooseHost 82 = .ok (.istore 8, 2) := by decide +kernel
theorem dX1_chooseHost_84 : decode cX1_chooseHost 84 = .ok (.iload 5, 2) := by decide +kernel
theorem dX1_chooseHost_86 : decode cX1_chooseHost 86 = .ok (.iconst (-1), 1) := by decide +kernel
theorem dX1_chooseHost_87 : decode cX1_chooseHost 87 = .ok (.if_icmp .eq 10, 3) := by decide +kernel
theorem dX1_chooseHost_90 : decode cX1_chooseHost 90 = .ok (.iload 8, 2) := by decide +kernel
theorem dX1_chooseHost_92 : decode cX1_chooseHost 92 = .ok (.iload 6, 2) := by decide +kernel
theorem dX1_chooseHost_94 : decode cX1_chooseHost 94 = .ok (.if_icmp .le 11, 3) := by decide +kernel
theorem dX1_chooseHost_97 : decode cX1_chooseHost 97 = .ok (.iload 7, 2) := by decide +kernel
theorem dX1_chooseHost_99 : decode cX1_chooseHost 99 = .ok (.istore 5, 2) := by decide +kernel
theorem dX1_chooseHost_101 : decode cX1_chooseHost 101 = .ok (.iload 8, 2) := by decide +kernel
theorem dX1_chooseHost_103 : decode cX1_chooseHost 103 = .ok (.istore 6, 2) := by decide +kernel
theorem dX1_chooseHost_105 : decode cX1_chooseHost 105 = .ok (.iinc 7 1, 3) := by decide +kernel
theorem dX1_chooseHost_108 : decode cX1_chooseHost 108 = .ok (.goto (-76), 3) := by decide +kernel
theorem dX1_chooseHost_111 : decode cX1_chooseHost 111 = .ok (.iload 5, 2) := by decide +kernel
theorem dX1_chooseHost_113 : decode cX1_chooseHost 113 = .ok (.ireturn, 1) := by decide +kernel
set_option maxHeartbeats 4000000 in
set_option maxRecDepth 100000 in
theorem uX1_chooseHost_105 (C : CX D [(cA, .int)] p s m args meth c A cX1_chooseHost 9 RX1 (some .int)) (k32 : Int32 → Int32 → Int32 → Int32 → Int32 → Int32 → Int32 → St → Rs) (h32 : ∀ (v1 v2 v3 v4 v5 v6 v7 : Int32) (S : St), RU D (wX a cA) p l e 4 s m args below meth c A 9 (QI D (wX a cA) [(cA, .int)] A) (k32 v1 v2 v3 v4 v5 v6 v7 S) 32 [] [(0, .ref (a 2)), (1, .int v1), (2, .int v2), (3, .int v3), (4, .int v4), (5, .int v5), (6, .int v6), (7, .int v7)] S) (v1 v2 v3 v4 v5 v6 v7 : Int32) (S : St) : RU D (wX a cA) p l e 4 s m args below meth c A 9 (QI D (wX a cA) [(cA, .int)] A) (fX1_chooseHost_105 k32 v1 v2 v3 v4 v5 v6 v7 S) 105 [] [(0, .ref (a 2)), (1, .int v1), (2, .int v2), (3, .int v3), (4, .int v4), (5, .int v5), (6, .int v6), (7, .int v7)] S := by
  unfold fX1_chooseHost_105
  refine R_iinc (v := v7 + 1) (lv' := [(7, .int (v7 + 1)), (0, .ref (a 2)), (1, .int v1), (2, .int v2), (3, .int v3), (4, .int v4), (5, .int v5), (6, .int v6)]) C dX1_chooseHost_105 7 rfl rfl (by decide) rfl ?_
  refine R_goto (tgt := 32) C dX1_chooseHost_108 (by decide) ?_
  refine R_sub [1, 2, 3, 4, 5, 6, 7, 0] rfl ?_
  exact h32 v1 v2 v3 v4 v5 v6 (v7 + 1) S
set_option maxHeartbeats 4000000 in
set_option maxRecDepth 100000 in
theorem uX1_chooseHost_97 (C : CX D [(cA, .int)] p s m args meth c A cX1_chooseHost 9 RX1 (some .int)) (k32 : Int32 → Int32 → Int32 → Int32 → Int32 → Int32 → Int32 → St → Rs) (h32 : ∀ (v1 v2 v3 v4 v5 v6 v7 : Int32) (S : St), RU D (wX a cA) p l e 4 s m args below meth c A 9 (QI D (wX a cA) [(cA, .int)] A) (k32 v1 v2 v3 v4 v5 v6 v7 S) 32 [] [(0, .ref (a 2)), (1, .int v1), (2, .int v2), (3, .int v3), (4, .int v4), (5, .int v5), (6, .int v6), (7, .int v7)] S) (v1 v2 v3 v4 v7 v8 : Int32) (S : St) : RU D (wX a cA) p l e 4 s m args below meth c A 9 (QI D (wX a cA) [(cA, .int)] A) (fX1_chooseHost_97 k32 v1 v2 v3 v4 v7 v8 S) 97 [] [(0, .ref (a 2)), (1, .int v1), (2, .int v2), (3, .int v3), (4, .int v4), (7, .int v7), (8, .int v8)] S := by
  unfold fX1_chooseHost_97
  refine R_iload C dX1_chooseHost_97 5 rfl ?_
  refine R_istore (lv' := [(5, .int v7), (0, .ref (a 2)), (1, .int v1), (2, .int v2), (3, .int v3), (4, .int v4), (7, .int v7), (8, .int v8)]) C dX1_chooseHost_99 (by decide) rfl ?_
  refine R_iload C dX1_chooseHost_101 7 rfl ?_
  refine R_istore (lv' := [(6, .int v8), (5, .int v7), (0, .ref (a 2)), (1, .int v1), (2, .int v2), (3, .int v3), (4, .int v4), (7, .int v7), (8, .int v8)]) C dX1_chooseHost_103 (by decide) rfl ?_
  refine R_sub [2, 3, 4, 5, 6, 1, 0, 7] rfl ?_
  exact uX1_chooseHost_105 C k32 h32 v1 v2 v3 v4 v7 v8 v7 S
set_option maxHeartbeats 4000000 in
set_option maxRecDepth 100000 in
theorem uX1_chooseHost_32_b (C : CX D [(cA, .int)] p s m args meth c A cX1_chooseHost 9 RX1 (some .int)) (k32 : Int32 → Int32 → Int32 → Int32 → Int32 → Int32 → Int32 → St → Rs) (h32 : ∀ (v1 v2 v3 v4 v5 v6 v7 : Int32) (S : St), RU D (wX a cA) p l e 4 s m args below meth c A 9 (QI D (wX a cA) [(cA, .int)] A) (k32 v1 v2 v3 v4 v5 v6 v7 S) 32 [] [(0, .ref (a 2)), (1, .int v1), (2, .int v2), (3, .int v3), (4, .int v4), (5, .int v5), (6, .int v6), (7, .int v7)] S) (v1 v2 v3 v4 v5 v6 v7 : Int32) (S : St) : RU D (wX a cA) p l e 4 s m args below meth c A 9 (QI D (wX a cA) [(cA, .int)] A) (fX1_chooseHost_32_b k32 v1 v2 v3 v4 v5 v6 v7 S) 32 [] [(0, .ref (a 2)), (1, .int v1), (2, .int v2), (3, .int v3), (4, .int v4), (5, .int v5), (6, .int v6), (7, .int v7)] S := by
  unfold fX1_chooseHost_32_b
  refine R_iload C dX1_chooseHost_32 7 rfl ?_
  refine R_aload_n C dX1_chooseHost_34 rfl 0 rfl ?_
  refine gtX_X1_net C wd_1_103 dX1_chooseHost_35 ?_
  refine gtX_X4_hosts C wd_1_57 dX1_chooseHost_38 ?_
  refine R_icmp_ge (tgt := 111) C dX1_chooseHost_41 (by decide) ?_ ?_
  · refine R_iload C dX1_chooseHost_111 5 rfl ?_
    exact R_reti C dX1_chooseHost_113
  · refine R_aload_n C dX1_chooseHost_44 rfl 0 rfl ?_
    refine gtX_X1_net C wd_1_103 dX1_chooseHost_45 ?_
    refine gtX_X4_loads C wd_1_47 dX1_chooseHost_48 ?_
    refine R_iload C dX1_chooseHost_51 7 rfl ?_
    refine ldX4 C dX1_chooseHost_53 ?_
    refine R_iload_n C dX1_chooseHost_54 rfl 3 rfl ?_
    refine R_icmp_lt (tgt := 61) C dX1_chooseHost_55 (by decide) ?_ ?_
    · refine R_aload_n C dX1_chooseHost_61 rfl 0 rfl ?_
      refine R_iload C dX1_chooseHost_62 7 rfl ?_
      refine R_iload_n C dX1_chooseHost_64 rfl 1 rfl ?_
      refine R_iload_n C dX1_chooseHost_65 rfl 2 rfl ?_
      refine R_iload C dX1_chooseHost_66 4 rfl ?_
      refine R_aload_n C dX1_chooseHost_68 rfl 0 rfl ?_
      refine gtX_X1_net C wd_1_103 dX1_chooseHost_69 ?_
      refine gtX_X4_loads C wd_1_47 dX1_chooseHost_72 ?_
      refine R_iload C dX1_chooseHost_75 7 rfl ?_
      refine ldX4 C dX1_chooseHost_77 ?_
      refine R_isub C dX1_chooseHost_78 ?_
      refine R_calli (As := [.int v7, .int v1, .int v2, .int (v4 - (S.2 4 (ix v7)))]) (st := []) C (kX1_scoreOf l D a cA S v7 v1 v2 (v4 - (S.2 4 (ix v7)))) (by decide) (by decide) wd_2_21 kwX1_scoreOf 2 rfl rfl rfl rfl (Nat.le_of_ble_eq_true rfl) dX1_chooseHost_79 (fun r1 S2 => ?_)
      refine R_istore (lv' := [(8, .int r1), (0, .ref (a 2)), (1, .int v1), (2, .int v2), (3, .int v3), (4, .int v4), (5, .int v5), (6, .int v6), (7, .int v7)]) C dX1_chooseHost_82 (by decide) rfl ?_
      refine R_iload C dX1_chooseHost_84 6 rfl ?_
      refine R_iconst (v := (-1 : Int32)) C dX1_chooseHost_86 (by decide) ?_
      refine R_icmp_eq (tgt := 97) C dX1_chooseHost_87 (by decide) ?_ ?_
      · refine R_sub [1, 2, 3, 4, 5, 8, 0] rfl ?_
        exact uX1_chooseHost_97 C k32 h32 v1 v2 v3 v4 v7 r1 S2
      · refine R_iload C dX1_chooseHost_90 0 rfl ?_
        refine R_iload C dX1_chooseHost_92 7 rfl ?_
        refine R_icmp_le (tgt := 105) C dX1_chooseHost_94 (by decide) ?_ ?_
        · refine R_sub [1, 2, 3, 4, 5, 6, 7, 8] rfl ?_
          exact uX1_chooseHost_105 C k32 h32 v1 v2 v3 v4 v5 v6 v7 S2
        · refine R_sub [1, 2, 3, 4, 5, 8, 0] rfl ?_
          exact uX1_chooseHost_97 C k32 h32 v1 v2 v3 v4 v7 r1 S2
    · refine R_goto (tgt := 105) C dX1_chooseHost_58 (by decide) ?_
      exact uX1_chooseHost_105 C k32 h32 v1 v2 v3 v4 v5 v6 v7 S
set_option maxHeartbeats 4000000 in
set_option maxRecDepth 100000 in
theorem uX1_chooseHost_32 (C : CX D [(cA, .int)] p s m args meth c A cX1_chooseHost 9 RX1 (some .int)) : ∀ (n : Nat) (v1 v2 v3 v4 v5 v6 v7 : Int32) (S : St), RU D (wX a cA) p l e 4 s m args below meth c A 9 (QI D (wX a cA) [(cA, .int)] A) (fX1_chooseHost_32 n v1 v2 v3 v4 v5 v6 v7 S) 32 [] [(0, .ref (a 2)), (1, .int v1), (2, .int v2), (3, .int v3), (4, .int v4), (5, .int v5), (6, .int v6), (7, .int v7)] S := by
  intro n
  induction n with
  | zero => intro v1 v2 v3 v4 v5 v6 v7 S; exact R_none
  | succ n ih => intro v1 v2 v3 v4 v5 v6 v7 S; exact uX1_chooseHost_32_b C _ ih v1 v2 v3 v4 v5 v6 v7 S
set_option maxHeartbeats 4000000 in
set_option maxRecDepth 100000 in
theorem uX1_chooseHost (C : CX D [(cA, .int)] p s m args meth c A cX1_chooseHost 9 RX1 (some .int)) (v1 v2 : Int32) (S : St) : RU D (wX a cA) p l e 4 s m args below meth c A 9 (QI D (wX a cA) [(cA, .int)] A) (fX1_chooseHost v1 v2 S) 0 [] [(0, .ref (a 2)), (1, .int v1), (2, .int v2)] S := by
  unfold fX1_chooseHost
  refine R_aload_n C dX1_chooseHost_0 rfl 0 rfl ?_
  refine R_aload_n C dX1_chooseHost_1 rfl 0 rfl ?_
  refine gtX_X1_net C wd_1_103 dX1_chooseHost_2 ?_
  refine gtX_X4_live C wd_1_67 dX1_chooseHost_5 ?_
  refine R_iconst (v := (1 : Int32)) C dX1_chooseHost_8 (by decide) ?_
  refine R_iadd C dX1_chooseHost_9 ?_
  refine R_calli (As := [.int ((S.1 4) + (1 : Int32))]) (st := []) C (kX1_roomFor l D a cA S ((S.1 4) + (1 : Int32))) (by decide) (by decide) wd_2_12 kwX1_roomFor 2 rfl rfl rfl rfl (Nat.le_of_ble_eq_true rfl) dX1_chooseHost_10 (fun r1 S2 => ?_)
  refine R_istore_n (lv' := [(3, .int r1), (0, .ref (a 2)), (1, .int v1), (2, .int v2)]) C dX1_chooseHost_13 rfl (by decide) rfl ?_
  refine R_aload_n C dX1_chooseHost_14 rfl 1 rfl ?_
  refine gtX_X1_net C wd_1_103 dX1_chooseHost_15 ?_
  refine R_calli (As := []) (st := []) C (kX4_greatestLoad l D a cA S2) (by decide) (by decide) wd_2_16 kwX4_greatestLoad 1 rfl rfl rfl rfl (Nat.le_of_ble_eq_true rfl) dX1_chooseHost_18 (fun r3 S4 => ?_)
  refine R_istore (lv' := [(4, .int r3), (3, .int r1), (0, .ref (a 2)), (1, .int v1), (2, .int v2)]) C dX1_chooseHost_21 (by decide) rfl ?_
  refine R_iconst (v := (-1 : Int32)) C dX1_chooseHost_23 (by decide) ?_
  refine R_istore (lv' := [(5, .int (-1 : Int32)), (4, .int r3), (3, .int r1), (0, .ref (a 2)), (1, .int v1), (2, .int v2)]) C dX1_chooseHost_24 (by decide) rfl ?_
  refine R_iconst (v := (0 : Int32)) C dX1_chooseHost_26 (by decide) ?_
  refine R_istore (lv' := [(6, .int (0 : Int32)), (5, .int (-1 : Int32)), (4, .int r3), (3, .int r1), (0, .ref (a 2)), (1, .int v1), (2, .int v2)]) C dX1_chooseHost_27 (by decide) rfl ?_
  refine R_iconst (v := (0 : Int32)) C dX1_chooseHost_29 (by decide) ?_
  refine R_istore (lv' := [(7, .int (0 : Int32)), (6, .int (0 : Int32)), (5, .int (-1 : Int32)), (4, .int r3), (3, .int r1), (0, .ref (a 2)), (1, .int v1), (2, .int v2)]) C dX1_chooseHost_30 (by decide) rfl ?_
  refine R_sub [5, 6, 7, 4, 3, 2, 1, 0] rfl ?_
  exact uX1_chooseHost_32 C FU v1 v2 r1 r3 (-1 : Int32) (0 : Int32) (0 : Int32) S4
set_option maxHeartbeats 4000000 in
set_option maxRecDepth 100000 in
theorem kX1_chooseHost (l : Launch) (D : va_G) (a : Nat → Nat) (cA : ClassId) (S : St) (v1 v2 : Int32) : CI l D (wX a cA) [(cA, .int)] yX1_chooseHost (.code yX1_chooseHost cX1_chooseHost 9 (some .int)) 4 [.ref (a 2), .int v1, .int v2] (fX1_chooseHost v1 v2 S) S := CI_of rfl (Nat.le_of_ble_eq_true rfl) (fun p e s m args below meth c A C => uX1_chooseHost C v1 v2 S)
theorem dX4_hasHost_0 : decode cX4_hasHost 0 = .ok (.iload_n 1, 1) := by decide +kernel
theorem dX4_hasHost_1 : decode cX4_hasHost 1 = .ok (.ifCond .lt 15, 3) := by decide +kernel
theorem dX4_hasHost_4 : decode cX4_hasHost 4 = .ok (.iload_n 1, 1) := by decide +kernel
theorem dX4_hasHost_5 : decode cX4_hasHost 5 = .ok (.aload_n 0, 1) := by decide +kernel
theorem dX4_hasHost_6 : decode cX4_hasHost 6 = .ok (.getfield 33, 3) := by decide +kernel
theorem dX4_hasHost_9 : decode cX4_hasHost 9 = .ok (.if_icmp .ge 7, 3) := by decide +kernel
theorem dX4_hasHost_12 : decode cX4_hasHost 12 = .ok (.iconst 1, 1) := by decide +kernel
theorem dX4_hasHost_13 : decode cX4_hasHost 13 = .ok (.goto 4, 3) := by decide +kernel
theorem dX4_hasHost_16 : decode cX4_hasHost 16 = .ok (.iconst 0, 1) := by decide +kernel
theorem dX4_hasHost_17 : decode cX4_hasHost 17 = .ok (.ireturn, 1) := by decide +kernel
set_option maxHeartbeats 4000000 in
set_option maxRecDepth 100000 in
theorem uX4_hasHost_17 (C : CX D [(cA, .int)] p s m args meth c A cX4_hasHost 2 RX4 (some .boolean)) (t0 : Int32) (S : St) : RU D (wX a cA) p l e 1 s m args below meth c A 2 (QI D (wX a cA) [(cA, .int)] A) (fX4_hasHost_17 t0 S) 17 [.int t0] [] S := by
  unfold fX4_hasHost_17
  exact R_retz C dX4_hasHost_17
set_option maxHeartbeats 4000000 in
set_option maxRecDepth 100000 in
theorem uX4_hasHost_16 (C : CX D [(cA, .int)] p s m args meth c A cX4_hasHost 2 RX4 (some .boolean)) (S : St) : RU D (wX a cA) p l e 1 s m args below meth c A 2 (QI D (wX a cA) [(cA, .int)] A) (fX4_hasHost_16 S) 16 [] [] S := by
  unfold fX4_hasHost_16
  refine R_iconst (v := (0 : Int32)) C dX4_hasHost_16 (by decide) ?_
  exact uX4_hasHost_17 C (0 : Int32) S
set_option maxHeartbeats 4000000 in
set_option maxRecDepth 100000 in
theorem uX4_hasHost (C : CX D [(cA, .int)] p s m args meth c A cX4_hasHost 2 RX4 (some .boolean)) (v1 : Int32) (S : St) : RU D (wX a cA) p l e 1 s m args below meth c A 2 (QI D (wX a cA) [(cA, .int)] A) (fX4_hasHost v1 S) 0 [] [(0, .ref (a 1)), (1, .int v1)] S := by
  unfold fX4_hasHost
  refine R_iload_n C dX4_hasHost_0 rfl 1 rfl ?_
  refine R_if_lt (tgt := 16) C dX4_hasHost_1 (by decide) ?_ ?_
  · refine R_sub [] rfl ?_
    exact uX4_hasHost_16 C S
  · refine R_iload_n C dX4_hasHost_4 rfl 1 rfl ?_
    refine R_aload_n C dX4_hasHost_5 rfl 0 rfl ?_
    refine gtX_X4_hosts C wd_1_56 dX4_hasHost_6 ?_
    refine R_icmp_ge (tgt := 16) C dX4_hasHost_9 (by decide) ?_ ?_
    · refine R_sub [] rfl ?_
      exact uX4_hasHost_16 C S
    · refine R_iconst (v := (1 : Int32)) C dX4_hasHost_12 (by decide) ?_
      refine R_goto (tgt := 17) C dX4_hasHost_13 (by decide) ?_
      refine R_sub [] rfl ?_
      exact uX4_hasHost_17 C (1 : Int32) S
set_option maxHeartbeats 4000000 in
set_option maxRecDepth 100000 in
theorem kX4_hasHost (l : Launch) (D : va_G) (a : Nat → Nat) (cA : ClassId) (S : St) (v1 : Int32) : CI l D (wX a cA) [(cA, .int)] yX4_hasHost (.code yX4_hasHost cX4_hasHost 2 (some .boolean)) 1 [.ref (a 1), .int v1] (fX4_hasHost v1 S) S := CI_of rfl (Nat.le_of_ble_eq_true rfl) (fun p e s m args below meth c A C => uX4_hasHost C v1 S)
theorem dX4_putEnd_0 : decode cX4_putEnd 0 = .ok (.aload_n 0, 1) := by decide +kernel
theorem dX4_putEnd_1 : decode cX4_putEnd 1 = .ok (.getfield 24, 3) := by decide +kernel
theorem dX4_putEnd_4 : decode cX4_putEnd 4 = .ok (.iload_n 1, 1) := by decide +kernel
theorem dX4_putEnd_5 : decode cX4_putEnd 5 = .ok (.dup2, 1) := by decide +kernel
theorem dX4_putEnd_6 : decode cX4_putEnd 6 = .ok (.iaload, 1) := by decide +kernel
theorem dX4_putEnd_7 : decode cX4_putEnd 7 = .ok (.iconst 1, 1) := by decide +kernel
theorem dX4_putEnd_8 : decode cX4_putEnd 8 = .ok (.iadd, 1) := by decide +kernel
theorem dX4_putEnd_9 : decode cX4_putEnd 9 = .ok (.iastore, 1) := by decide +kernel
theorem dX4_putEnd_10 : decode cX4_putEnd 10 = .ok (.aload_n 0, 1) := by decide +kernel
theorem dX4_putEnd_11 : decode cX4_putEnd 11 = .ok (.getfield 30, 3) := by decide +kernel
theorem dX4_putEnd_14 : decode cX4_putEnd 14 = .ok (.iload_n 2, 1) := by decide +kernel
theorem dX4_putEnd_15 : decode cX4_putEnd 15 = .ok (.bipush 40, 2) := by decide +kernel
theorem dX4_putEnd_17 : decode cX4_putEnd 17 = .ok (.imul, 1) := by decide +kernel
theorem dX4_putEnd_18 : decode cX4_putEnd 18 = .ok (.iload_n 1, 1) := by decide +kernel
theorem dX4_putEnd_19 : decode cX4_putEnd 19 = .ok (.iadd, 1) := by decide +kernel
theorem dX4_putEnd_20 : decode cX4_putEnd 20 = .ok (.dup2, 1) := by decide +kernel
theorem dX4_putEnd_21 : decode cX4_putEnd 21 = .ok (.iaload, 1) := by decide +kernel
theorem dX4_putEnd_22 : decode cX4_putEnd 22 = .ok (.iconst 1, 1) := by decide +kernel
theorem dX4_putEnd_23 : decode cX4_putEnd 23 = .ok (.iadd, 1) := by decide +kernel
theorem dX4_putEnd_24 : decode cX4_putEnd 24 = .ok (.iastore, 1) := by decide +kernel
theorem dX4_putEnd_25 : decode cX4_putEnd 25 = .ok (.aload_n 0, 1) := by decide +kernel
theorem dX4_putEnd_26 : decode cX4_putEnd 26 = .ok (.getfield 30, 3) := by decide +kernel
theorem dX4_putEnd_29 : decode cX4_putEnd 29 = .ok (.iload_n 2, 1) := by decide +kernel
theorem dX4_putEnd_30 : decode cX4_putEnd 30 = .ok (.bipush 40, 2) := by decide +kernel
theorem dX4_putEnd_32 : decode cX4_putEnd 32 = .ok (.imul, 1) := by decide +kernel
theorem dX4_putEnd_33 : decode cX4_putEnd 33 = .ok (.iload_n 1, 1) := by decide +kernel
theorem dX4_putEnd_34 : decode cX4_putEnd 34 = .ok (.iadd, 1) := by decide +kernel
theorem dX4_putEnd_35 : decode cX4_putEnd 35 = .ok (.iaload, 1) := by decide +kernel
theorem dX4_putEnd_36 : decode cX4_putEnd 36 = .ok (.iconst 1, 1) := by decide +kernel
theorem dX4_putEnd_37 : decode cX4_putEnd 37 = .ok (.if_icmp .ne 25, 3) := by decide +kernel
theorem dX4_putEnd_40 : decode cX4_putEnd 40 = .ok (.aload_n 0, 1) := by decide +kernel
theorem dX4_putEnd_41 : decode cX4_putEnd 41 = .ok (.getfield 27, 3) := by decide +kernel
theorem dX4_putEnd_44 : decode cX4_putEnd 44 = .ok (.iload_n 1, 1) := by decide +kernel
theorem dX4_putEnd_45 : decode cX4_putEnd 45 = .ok (.dup2, 1) := by decide +kernel
theorem dX4_putEnd_46 : decode cX4_putEnd 46 = .ok (.iaload, 1) := by decide +kernel
theorem dX4_putEnd_47 : decode cX4_putEnd 47 = .ok (.iconst 1, 1) := by decide +kernel
theorem dX4_putEnd_48 : decode cX4_putEnd 48 = .ok (.iload_n 2, 1) := by decide +kernel
theorem dX4_putEnd_49 : decode cX4_putEnd 49 = .ok (.ishl, 1) := by decide +kernel
theorem dX4_putEnd_50 : decode cX4_putEnd 50 = .ok (.ior, 1) := by decide +kernel
theorem dX4_putEnd_51 : decode cX4_putEnd 51 = .ok (.iastore, 1) := by decide +kernel
theorem dX4_putEnd_52 : decode cX4_putEnd 52 = .ok (.aload_n 0, 1) := by decide +kernel
theorem dX4_putEnd_53 : decode cX4_putEnd 53 = .ok (.dup, 1) := by decide +kernel
theorem dX4_putEnd_54 : decode cX4_putEnd 54 = .ok (.getfield 57, 3) := by decide +kernel
theorem dX4_putEnd_57 : decode cX4_putEnd 57 = .ok (.iconst 1, 1) := by decide +kernel
theorem dX4_putEnd_58 : decode cX4_putEnd 58 = .ok (.iadd, 1) := by decide +kernel
theorem dX4_putEnd_59 : decode cX4_putEnd 59 = .ok (.putfield 57, 3) := by decide +kernel
theorem dX4_putEnd_62 : decode cX4_putEnd 62 = .ok (.return_, 1) := by decide +kernel
set_option maxHeartbeats 4000000 in
set_option maxRecDepth 100000 in
theorem uX4_putEnd_62 (C : CX D [(cA, .int)] p s m args meth c A cX4_putEnd 3 RX4 none) (S : St) : RU D (wX a cA) p l e 1 s m args below meth c A 3 (QV D (wX a cA) [(cA, .int)] A) (fX4_putEnd_62 S) 62 [] [] S := by
  unfold fX4_putEnd_62
  exact R_retv C dX4_putEnd_62
set_option maxHeartbeats 4000000 in
set_option maxRecDepth 100000 in
theorem uX4_putEnd (C : CX D [(cA, .int)] p s m args meth c A cX4_putEnd 3 RX4 none) (v1 v2 : Int32) (S : St) : RU D (wX a cA) p l e 1 s m args below meth c A 3 (QV D (wX a cA) [(cA, .int)] A) (fX4_putEnd v1 v2 S) 0 [] [(0, .ref (a 1)), (1, .int v1), (2, .int v2)] S := by
  unfold fX4_putEnd
  refine R_aload_n C dX4_putEnd_0 rfl 0 rfl ?_
  refine gtX_X4_degrees C wd_1_49 dX4_putEnd_1 ?_
  refine R_iload_n C dX4_putEnd_4 rfl 1 rfl ?_
  refine R_dup2 C dX4_putEnd_5 rfl rfl ?_
  refine ldX5 C dX4_putEnd_6 ?_
  refine R_iconst (v := (1 : Int32)) C dX4_putEnd_7 (by decide) ?_
  refine R_iadd C dX4_putEnd_8 ?_
  refine svX5 C dX4_putEnd_9 ?_
  refine R_letS (fun S1 => ?_)
  refine R_aload_n C dX4_putEnd_10 rfl 0 rfl ?_
  refine gtX_X4_linesAt C wd_1_55 dX4_putEnd_11 ?_
  refine R_iload_n C dX4_putEnd_14 rfl 2 rfl ?_
  refine R_bipush (v := (40 : Int32)) C dX4_putEnd_15 (by decide) ?_
  refine R_imul C dX4_putEnd_17 ?_
  refine R_iload_n C dX4_putEnd_18 rfl 1 rfl ?_
  refine R_iadd C dX4_putEnd_19 ?_
  refine R_dup2 C dX4_putEnd_20 rfl rfl ?_
  refine ldX7 C dX4_putEnd_21 ?_
  refine R_iconst (v := (1 : Int32)) C dX4_putEnd_22 (by decide) ?_
  refine R_iadd C dX4_putEnd_23 ?_
  refine svX7 C dX4_putEnd_24 ?_
  refine R_letS (fun S2 => ?_)
  refine R_aload_n C dX4_putEnd_25 rfl 0 rfl ?_
  refine gtX_X4_linesAt C wd_1_55 dX4_putEnd_26 ?_
  refine R_iload_n C dX4_putEnd_29 rfl 2 rfl ?_
  refine R_bipush (v := (40 : Int32)) C dX4_putEnd_30 (by decide) ?_
  refine R_imul C dX4_putEnd_32 ?_
  refine R_iload_n C dX4_putEnd_33 rfl 1 rfl ?_
  refine R_iadd C dX4_putEnd_34 ?_
  refine ldX7 C dX4_putEnd_35 ?_
  refine R_iconst (v := (1 : Int32)) C dX4_putEnd_36 (by decide) ?_
  refine R_icmp_ne (tgt := 62) C dX4_putEnd_37 (by decide) ?_ ?_
  · refine R_aload_n C dX4_putEnd_40 rfl 0 rfl ?_
    refine gtX_X4_copyBits C wd_1_53 dX4_putEnd_41 ?_
    refine R_iload_n C dX4_putEnd_44 rfl 1 rfl ?_
    refine R_dup2 C dX4_putEnd_45 rfl rfl ?_
    refine ldX6 C dX4_putEnd_46 ?_
    refine R_iconst (v := (1 : Int32)) C dX4_putEnd_47 (by decide) ?_
    refine R_iload_n C dX4_putEnd_48 rfl 2 rfl ?_
    refine R_ishl C dX4_putEnd_49 ?_
    refine R_ior C dX4_putEnd_50 ?_
    refine svX6 C dX4_putEnd_51 ?_
    refine R_letS (fun S3 => ?_)
    refine R_aload_n C dX4_putEnd_52 rfl 0 rfl ?_
    refine R_dup C dX4_putEnd_53 rfl ?_
    refine gtX_X4_allCopies C wd_1_71 dX4_putEnd_54 ?_
    refine R_iconst (v := (1 : Int32)) C dX4_putEnd_57 (by decide) ?_
    refine R_iadd C dX4_putEnd_58 ?_
    refine ptX_X4_allCopies C wd_1_71 dX4_putEnd_59 ?_
    refine R_letS (fun S4 => ?_)
    refine R_sub [] rfl ?_
    exact uX4_putEnd_62 C S4
  · refine R_sub [] rfl ?_
    exact uX4_putEnd_62 C S2
set_option maxHeartbeats 4000000 in
set_option maxRecDepth 100000 in
theorem kX4_putEnd (l : Launch) (D : va_G) (a : Nat → Nat) (cA : ClassId) (S : St) (v1 v2 : Int32) : CV l D (wX a cA) [(cA, .int)] yX4_putEnd (.code yX4_putEnd cX4_putEnd 3 none) 1 [.ref (a 1), .int v1, .int v2] (fX4_putEnd v1 v2 S) S := CV_of rfl (Nat.le_of_ble_eq_true rfl) (fun p e s m args below meth c A C => uX4_putEnd C v1 v2 S)
theorem dX4_putOn_0 : decode cX4_putOn 0 = .ok (.aload_n 0, 1) := by decide +kernel
theorem dX4_putOn_1 : decode cX4_putOn 1 = .ok (.iload_n 2, 1) := by decide +kernel
theorem dX4_putOn_2 : decode cX4_putOn 2 = .ok (.invokevirtual 40, 3) := by decide +kernel
theorem dX4_putOn_5 : decode cX4_putOn 5 = .ok (.ifCond .ne 4, 3) := by decide +kernel
theorem dX4_putOn_8 : decode cX4_putOn 8 = .ok (.return_, 1) := by decide +kernel
theorem dX4_putOn_9 : decode cX4_putOn 9 = .ok (.aload_n 0, 1) := by decide +kernel
theorem dX4_putOn_10 : decode cX4_putOn 10 = .ok (.getfield 18, 3) := by decide +kernel
theorem dX4_putOn_13 : decode cX4_putOn 13 = .ok (.iload_n 1, 1) := by decide +kernel
theorem dX4_putOn_14 : decode cX4_putOn 14 = .ok (.iload_n 2, 1) := by decide +kernel
theorem dX4_putOn_15 : decode cX4_putOn 15 = .ok (.iastore, 1) := by decide +kernel
theorem dX4_putOn_16 : decode cX4_putOn 16 = .ok (.aload_n 0, 1) := by decide +kernel
theorem dX4_putOn_17 : decode cX4_putOn 17 = .ok (.getfield 21, 3) := by decide +kernel
theorem dX4_putOn_20 : decode cX4_putOn 20 = .ok (.iload_n 2, 1) := by decide +kernel
theorem dX4_putOn_21 : decode cX4_putOn 21 = .ok (.dup2, 1) := by decide +kernel
theorem dX4_putOn_22 : decode cX4_putOn 22 = .ok (.iaload, 1) := by decide +kernel
theorem dX4_putOn_23 : decode cX4_putOn 23 = .ok (.iconst 1, 1) := by decide +kernel
theorem dX4_putOn_24 : decode cX4_putOn 24 = .ok (.iadd, 1) := by decide +kernel
theorem dX4_putOn_25 : decode cX4_putOn 25 = .ok (.iastore, 1) := by decide +kernel
theorem dX4_putOn_26 : decode cX4_putOn 26 = .ok (.aload_n 0, 1) := by decide +kernel
theorem dX4_putOn_27 : decode cX4_putOn 27 = .ok (.dup, 1) := by decide +kernel
theorem dX4_putOn_28 : decode cX4_putOn 28 = .ok (.getfield 44, 3) := by decide +kernel
theorem dX4_putOn_31 : decode cX4_putOn 31 = .ok (.iconst 1, 1) := by decide +kernel
theorem dX4_putOn_32 : decode cX4_putOn 32 = .ok (.iadd, 1) := by decide +kernel
theorem dX4_putOn_33 : decode cX4_putOn 33 = .ok (.putfield 44, 3) := by decide +kernel
theorem dX4_putOn_36 : decode cX4_putOn 36 = .ok (.aload_n 0, 1) := by decide +kernel
theorem dX4_putOn_37 : decode cX4_putOn 37 = .ok (.aload_n 0, 1) := by decide +kernel
theorem dX4_putOn_38 : decode cX4_putOn 38 = .ok (.getfield 9, 3) := by decide +kernel
theorem dX4_putOn_41 : decode cX4_putOn 41 = .ok (.iload_n 1, 1) := by decide +kernel
theorem dX4_putOn_42 : decode cX4_putOn 42 = .ok (.iaload, 1) := by decide +kernel
theorem dX4_putOn_43 : decode cX4_putOn 43 = .ok (.iload_n 2, 1) := by decide +kernel
theorem dX4_putOn_44 : decode cX4_putOn 44 = .ok (.invokevirtual 47, 3) := by decide +kernel
theorem dX4_putOn_47 : decode cX4_putOn 47 = .ok (.aload_n 0, 1) := by decide +kernel
theorem dX4_putOn_48 : decode cX4_putOn 48 = .ok (.aload_n 0, 1) := by decide +kernel
theorem dX4_putOn_49 : decode cX4_putOn 49 = .ok (.getfield 15, 3) := by decide +kernel
theorem dX4_putOn_52 : decode cX4_putOn 52 = .ok (.iload_n 1, 1) := by decide +kernel
theorem dX4_putOn_53 : decode cX4_putOn 53 = .ok (.iaload, 1) := by decide +kernel
theorem dX4_putOn_54 : decode cX4_putOn 54 = .ok (.iload_n 2, 1) := by decide +kernel
theorem dX4_putOn_55 : decode cX4_putOn 55 = .ok (.invokevirtual 47, 3) := by decide +kernel
theorem dX4_putOn_58 : decode cX4_putOn 58 = .ok (.return_, 1) := by decide +kernel
set_option maxHeartbeats 4000000 in
set_option maxRecDepth 100000 in
theorem uX4_putOn (C : CX D [(cA, .int)] p s m args meth c A cX4_putOn 3 RX4 none) (v1 v2 : Int32) (S : St) : RU D (wX a cA) p l e 2 s m args below meth c A 3 (QV D (wX a cA) [(cA, .int)] A) (fX4_putOn v1 v2 S) 0 [] [(0, .ref (a 1)), (1, .int v1), (2, .int v2)] S := by
  unfold fX4_putOn
  refine R_aload_n C dX4_putOn_0 rfl 0 rfl ?_
  refine R_iload_n C dX4_putOn_1 rfl 2 rfl ?_
  refine R_calli (As := [.int v2]) (st := []) C (kX4_hasHost l D a cA S v2) (by decide) (by decide) wd_2_37 kwX4_hasHost 1 rfl rfl rfl rfl (Nat.le_of_ble_eq_true rfl) dX4_putOn_2 (fun r1 S2 => ?_)
  refine R_if_ne (tgt := 9) C dX4_putOn_5 (by decide) ?_ ?_
  · exact R_retv C dX4_putOn_8
  · refine R_aload_n C dX4_putOn_9 rfl 0 rfl ?_
    refine gtX_X4_hostOf C wd_1_42 dX4_putOn_10 ?_
    refine R_iload_n C dX4_putOn_13 rfl 1 rfl ?_
    refine R_iload_n C dX4_putOn_14 rfl 2 rfl ?_
    refine svX3 C dX4_putOn_15 ?_
    refine R_letS (fun S3 => ?_)
    refine R_aload_n C dX4_putOn_16 rfl 0 rfl ?_
    refine gtX_X4_loads C wd_1_45 dX4_putOn_17 ?_
    refine R_iload_n C dX4_putOn_20 rfl 2 rfl ?_
    refine R_dup2 C dX4_putOn_21 rfl rfl ?_
    refine ldX4 C dX4_putOn_22 ?_
    refine R_iconst (v := (1 : Int32)) C dX4_putOn_23 (by decide) ?_
    refine R_iadd C dX4_putOn_24 ?_
    refine svX4 C dX4_putOn_25 ?_
    refine R_letS (fun S4 => ?_)
    refine R_aload_n C dX4_putOn_26 rfl 0 rfl ?_
    refine R_dup C dX4_putOn_27 rfl ?_
    refine gtX_X4_live C wd_1_68 dX4_putOn_28 ?_
    refine R_iconst (v := (1 : Int32)) C dX4_putOn_31 (by decide) ?_
    refine R_iadd C dX4_putOn_32 ?_
    refine ptX_X4_live C wd_1_68 dX4_putOn_33 ?_
    refine R_letS (fun S5 => ?_)
    refine R_aload_n C dX4_putOn_36 rfl 0 rfl ?_
    refine R_aload_n C dX4_putOn_37 rfl 0 rfl ?_
    refine gtX_X4_firstEnd C wd_1_32 dX4_putOn_38 ?_
    refine R_iload_n C dX4_putOn_41 rfl 1 rfl ?_
    refine ldX1 C dX4_putOn_42 ?_
    refine R_iload_n C dX4_putOn_43 rfl 2 rfl ?_
    refine R_callv (As := [.int (S5.2 1 (ix v1)), .int v2]) (st := []) C (kX4_putEnd l D a cA S5 (S5.2 1 (ix v1)) v2) (by decide) (by decide) wd_2_41 kwX4_putEnd 1 rfl rfl rfl rfl (Nat.le_of_ble_eq_true rfl) dX4_putOn_44 (fun r6 S7 => ?_)
    refine R_aload_n C dX4_putOn_47 rfl 0 rfl ?_
    refine R_aload_n C dX4_putOn_48 rfl 0 rfl ?_
    refine gtX_X4_secondEnd C wd_1_37 dX4_putOn_49 ?_
    refine R_iload_n C dX4_putOn_52 rfl 1 rfl ?_
    refine ldX2 C dX4_putOn_53 ?_
    refine R_iload_n C dX4_putOn_54 rfl 2 rfl ?_
    refine R_callv (As := [.int (S7.2 2 (ix v1)), .int v2]) (st := []) C (kX4_putEnd l D a cA S7 (S7.2 2 (ix v1)) v2) (by decide) (by decide) wd_2_41 kwX4_putEnd 1 rfl rfl rfl rfl (Nat.le_of_ble_eq_true rfl) dX4_putOn_55 (fun r8 S9 => ?_)
    exact R_retv C dX4_putOn_58
set_option maxHeartbeats 4000000 in
set_option maxRecDepth 100000 in
theorem kX4_putOn (l : Launch) (D : va_G) (a : Nat → Nat) (cA : ClassId) (S : St) (v1 v2 : Int32) : CV l D (wX a cA) [(cA, .int)] yX4_putOn (.code yX4_putOn cX4_putOn 3 none) 2 [.ref (a 1), .int v1, .int v2] (fX4_putOn v1 v2 S) S := CV_of rfl (Nat.le_of_ble_eq_true rfl) (fun p e s m args below meth c A C => uX4_putOn C v1 v2 S)
theorem dX1_dealLine_0 : decode cX1_dealLine 0 = .ok (.aload_n 0, 1) := by decide +kernel
theorem dX1_dealLine_1 : decode cX1_dealLine 1 = .ok (.aload_n 0, 1) := by decide +kernel
theorem dX1_dealLine_2 : decode cX1_dealLine 2 = .ok (.getfield 21, 3) := by decide +kernel
theorem dX1_dealLine_5 : decode cX1_dealLine 5 = .ok (.getfield 30, 3) := by decide +kernel
theorem dX1_dealLine_8 : decode cX1_dealLine 8 = .ok (.iload_n 1, 1) := by decide +kernel
theorem dX1_dealLine_9 : decode cX1_dealLine 9 = .ok (.iaload, 1) := by decide +kernel
theorem dX1_dealLine_10 : decode cX1_dealLine 10 = .ok (.aload_n 0, 1) := by decide +kernel
theorem dX1_dealLine_11 : decode cX1_dealLine 11 = .ok (.getfield 21, 3) := by decide +kernel
theorem dX1_dealLine_14 : decode cX1_dealLine 14 = .ok (.getfield 34, 3) := by decide +kernel
theorem dX1_dealLine_17 : decode cX1_dealLine 17 = .ok (.iload_n 1, 1) := by decide +kernel
theorem dX1_dealLine_18 : decode cX1_dealLine 18 = .ok (.iaload, 1) := by decide +kernel
theorem dX1_dealLine_19 : decode cX1_dealLine 19 = .ok (.invokevirtual 37, 3) := by decide +kernel
theorem dX1_dealLine_22 : decode cX1_dealLine 22 = .ok (.istore_n 2, 1) := by decide +kernel
theorem dX1_dealLine_23 : decode cX1_dealLine 23 = .ok (.aload_n 0, 1) := by decide +kernel
theorem dX1_dealLine_24 : decode cX1_dealLine 24 = .ok (.getfield 21, 3) := by decide +kernel
theorem dX1_dealLine_27 : decode cX1_dealLine 27 = .ok (.iload_n 1, 1) := by decide +kernel
theorem dX1_dealLine_28 : decode cX1_dealLine 28 = .ok (.iload_n 2, 1) := by decide +kernel
theorem dX1_dealLine_29 : decode cX1_dealLine 29 = .ok (.invokevirtual 41, 3) := by decide +kernel
theorem dX1_dealLine_32 : decode cX1_dealLine 32 = .ok (.iload_n 2, 1) := by decide +kernel
theorem dX1_dealLine_33 : decode cX1_dealLine 33 = .ok (.ireturn, 1) := by decide +kernel
set_option maxHeartbeats 4000000 in
set_option maxRecDepth 100000 in
theorem uX1_dealLine (C : CX D [(cA, .int)] p s m args meth c A cX1_dealLine 3 RX1 (some .int)) (v1 : Int32) (S : St) : RU D (wX a cA) p l e 5 s m args below meth c A 3 (QI D (wX a cA) [(cA, .int)] A) (fX1_dealLine v1 S) 0 [] [(0, .ref (a 2)), (1, .int v1)] S := by
  unfold fX1_dealLine
  refine R_aload_n C dX1_dealLine_0 rfl 0 rfl ?_
  refine R_aload_n C dX1_dealLine_1 rfl 0 rfl ?_
  refine gtX_X1_net C wd_1_103 dX1_dealLine_2 ?_
  refine gtX_X4_firstEnd C wd_1_33 dX1_dealLine_5 ?_
  refine R_iload_n C dX1_dealLine_8 rfl 1 rfl ?_
  refine ldX1 C dX1_dealLine_9 ?_
  refine R_aload_n C dX1_dealLine_10 rfl 0 rfl ?_
  refine gtX_X1_net C wd_1_103 dX1_dealLine_11 ?_
  refine gtX_X4_secondEnd C wd_1_38 dX1_dealLine_14 ?_
  refine R_iload_n C dX1_dealLine_17 rfl 1 rfl ?_
  refine ldX2 C dX1_dealLine_18 ?_
  refine R_calli (As := [.int (S.2 1 (ix v1)), .int (S.2 2 (ix v1))]) (st := []) C (kX1_chooseHost l D a cA S (S.2 1 (ix v1)) (S.2 2 (ix v1))) (by decide) (by decide) wd_2_8 kwX1_chooseHost 2 rfl rfl rfl rfl (Nat.le_of_ble_eq_true rfl) dX1_dealLine_19 (fun r1 S2 => ?_)
  refine R_istore_n (lv' := [(2, .int r1), (0, .ref (a 2)), (1, .int v1)]) C dX1_dealLine_22 rfl (by decide) rfl ?_
  refine R_aload_n C dX1_dealLine_23 rfl 1 rfl ?_
  refine gtX_X1_net C wd_1_103 dX1_dealLine_24 ?_
  refine R_iload_n C dX1_dealLine_27 rfl 2 rfl ?_
  refine R_iload_n C dX1_dealLine_28 rfl 0 rfl ?_
  refine R_callv (As := [.int v1, .int r1]) (st := []) C (kX4_putOn l D a cA S2 v1 r1) (by decide) (by decide) wd_2_33 kwX4_putOn 1 rfl rfl rfl rfl (Nat.le_of_ble_eq_true rfl) dX1_dealLine_29 (fun r3 S4 => ?_)
  refine R_iload_n C dX1_dealLine_32 rfl 0 rfl ?_
  exact R_reti C dX1_dealLine_33
set_option maxHeartbeats 4000000 in
set_option maxRecDepth 100000 in
theorem kX1_dealLine (l : Launch) (D : va_G) (a : Nat → Nat) (cA : ClassId) (S : St) (v1 : Int32) : CI l D (wX a cA) [(cA, .int)] yX1_dealLine (.code yX1_dealLine cX1_dealLine 3 (some .int)) 5 [.ref (a 2), .int v1] (fX1_dealLine v1 S) S := CI_of rfl (Nat.le_of_ble_eq_true rfl) (fun p e s m args below meth c A C => uX1_dealLine C v1 S)
theorem dX4_isLive_0 : decode cX4_isLive 0 = .ok (.iload_n 1, 1) := by decide +kernel
theorem dX4_isLive_1 : decode cX4_isLive 1 = .ok (.ifCond .lt 25, 3) := by decide +kernel
theorem dX4_isLive_4 : decode cX4_isLive 4 = .ok (.iload_n 1, 1) := by decide +kernel
theorem dX4_isLive_5 : decode cX4_isLive 5 = .ok (.aload_n 0, 1) := by decide +kernel
theorem dX4_isLive_6 : decode cX4_isLive 6 = .ok (.getfield 37, 3) := by decide +kernel
theorem dX4_isLive_9 : decode cX4_isLive 9 = .ok (.if_icmp .ge 17, 3) := by decide +kernel
theorem dX4_isLive_12 : decode cX4_isLive 12 = .ok (.aload_n 0, 1) := by decide +kernel
theorem dX4_isLive_13 : decode cX4_isLive 13 = .ok (.getfield 18, 3) := by decide +kernel
theorem dX4_isLive_16 : decode cX4_isLive 16 = .ok (.iload_n 1, 1) := by decide +kernel
theorem dX4_isLive_17 : decode cX4_isLive 17 = .ok (.iaload, 1) := by decide +kernel
theorem dX4_isLive_18 : decode cX4_isLive 18 = .ok (.iconst (-1), 1) := by decide +kernel
theorem dX4_isLive_19 : decode cX4_isLive 19 = .ok (.if_icmp .eq 7, 3) := by decide +kernel
theorem dX4_isLive_22 : decode cX4_isLive 22 = .ok (.iconst 1, 1) := by decide +kernel
theorem dX4_isLive_23 : decode cX4_isLive 23 = .ok (.goto 4, 3) := by decide +kernel
theorem dX4_isLive_26 : decode cX4_isLive 26 = .ok (.iconst 0, 1) := by decide +kernel
theorem dX4_isLive_27 : decode cX4_isLive 27 = .ok (.ireturn, 1) := by decide +kernel
set_option maxHeartbeats 4000000 in
set_option maxRecDepth 100000 in
theorem uX4_isLive_27 (C : CX D [(cA, .int)] p s m args meth c A cX4_isLive 2 RX4 (some .boolean)) (t0 : Int32) (S : St) : RU D (wX a cA) p l e 1 s m args below meth c A 2 (QI D (wX a cA) [(cA, .int)] A) (fX4_isLive_27 t0 S) 27 [.int t0] [] S := by
  unfold fX4_isLive_27
  exact R_retz C dX4_isLive_27
set_option maxHeartbeats 4000000 in
set_option maxRecDepth 100000 in
theorem uX4_isLive_26 (C : CX D [(cA, .int)] p s m args meth c A cX4_isLive 2 RX4 (some .boolean)) (S : St) : RU D (wX a cA) p l e 1 s m args below meth c A 2 (QI D (wX a cA) [(cA, .int)] A) (fX4_isLive_26 S) 26 [] [] S := by
  unfold fX4_isLive_26
  refine R_iconst (v := (0 : Int32)) C dX4_isLive_26 (by decide) ?_
  exact uX4_isLive_27 C (0 : Int32) S
set_option maxHeartbeats 4000000 in
set_option maxRecDepth 100000 in
theorem uX4_isLive (C : CX D [(cA, .int)] p s m args meth c A cX4_isLive 2 RX4 (some .boolean)) (v1 : Int32) (S : St) : RU D (wX a cA) p l e 1 s m args below meth c A 2 (QI D (wX a cA) [(cA, .int)] A) (fX4_isLive v1 S) 0 [] [(0, .ref (a 1)), (1, .int v1)] S := by
  unfold fX4_isLive
  refine R_iload_n C dX4_isLive_0 rfl 1 rfl ?_
  refine R_if_lt (tgt := 26) C dX4_isLive_1 (by decide) ?_ ?_
  · refine R_sub [] rfl ?_
    exact uX4_isLive_26 C S
  · refine R_iload_n C dX4_isLive_4 rfl 1 rfl ?_
    refine R_aload_n C dX4_isLive_5 rfl 0 rfl ?_
    refine gtX_X4_came C wd_1_64 dX4_isLive_6 ?_
    refine R_icmp_ge (tgt := 26) C dX4_isLive_9 (by decide) ?_ ?_
    · refine R_sub [] rfl ?_
      exact uX4_isLive_26 C S
    · refine R_aload_n C dX4_isLive_12 rfl 0 rfl ?_
      refine gtX_X4_hostOf C wd_1_42 dX4_isLive_13 ?_
      refine R_iload_n C dX4_isLive_16 rfl 1 rfl ?_
      refine ldX3 C dX4_isLive_17 ?_
      refine R_iconst (v := (-1 : Int32)) C dX4_isLive_18 (by decide) ?_
      refine R_icmp_eq (tgt := 26) C dX4_isLive_19 (by decide) ?_ ?_
      · refine R_sub [] rfl ?_
        exact uX4_isLive_26 C S
      · refine R_iconst (v := (1 : Int32)) C dX4_isLive_22 (by decide) ?_
        refine R_goto (tgt := 27) C dX4_isLive_23 (by decide) ?_
        refine R_sub [] rfl ?_
        exact uX4_isLive_27 C (1 : Int32) S
set_option maxHeartbeats 4000000 in
set_option maxRecDepth 100000 in
theorem kX4_isLive (l : Launch) (D : va_G) (a : Nat → Nat) (cA : ClassId) (S : St) (v1 : Int32) : CI l D (wX a cA) [(cA, .int)] yX4_isLive (.code yX4_isLive cX4_isLive 2 (some .boolean)) 1 [.ref (a 1), .int v1] (fX4_isLive v1 S) S := CI_of rfl (Nat.le_of_ble_eq_true rfl) (fun p e s m args below meth c A C => uX4_isLive C v1 S)
theorem dX4_takeEnd_0 : decode cX4_takeEnd 0 = .ok (.aload_n 0, 1) := by decide +kernel
theorem dX4_takeEnd_1 : decode cX4_takeEnd 1 = .ok (.getfield 24, 3) := by decide +kernel
theorem dX4_takeEnd_4 : decode cX4_takeEnd 4 = .ok (.iload_n 1, 1) := by decide +kernel
theorem dX4_takeEnd_5 : decode cX4_takeEnd 5 = .ok (.dup2, 1) := by decide +kernel
theorem dX4_takeEnd_6 : decode cX4_takeEnd 6 = .ok (.iaload, 1) := by decide +kernel
theorem dX4_takeEnd_7 : decode cX4_takeEnd 7 = .ok (.iconst 1, 1) := by decide +kernel
theorem dX4_takeEnd_8 : decode cX4_takeEnd 8 = .ok (.isub, 1) := by decide +kernel
theorem dX4_takeEnd_9 : decode cX4_takeEnd 9 = .ok (.iastore, 1) := by decide +kernel
theorem dX4_takeEnd_10 : decode cX4_takeEnd 10 = .ok (.aload_n 0, 1) := by decide +kernel
theorem dX4_takeEnd_11 : decode cX4_takeEnd 11 = .ok (.getfield 30, 3) := by decide +kernel
theorem dX4_takeEnd_14 : decode cX4_takeEnd 14 = .ok (.iload_n 2, 1) := by decide +kernel
theorem dX4_takeEnd_15 : decode cX4_takeEnd 15 = .ok (.bipush 40, 2) := by decide +kernel
theorem dX4_takeEnd_17 : decode cX4_takeEnd 17 = .ok (.imul, 1) := by decide +kernel
theorem dX4_takeEnd_18 : decode cX4_takeEnd 18 = .ok (.iload_n 1, 1) := by decide +kernel
theorem dX4_takeEnd_19 : decode cX4_takeEnd 19 = .ok (.iadd, 1) := by decide +kernel
theorem dX4_takeEnd_20 : decode cX4_takeEnd 20 = .ok (.dup2, 1) := by decide +kernel
theorem dX4_takeEnd_21 : decode cX4_takeEnd 21 = .ok (.iaload, 1) := by decide +kernel
theorem dX4_takeEnd_22 : decode cX4_takeEnd 22 = .ok (.iconst 1, 1) := by decide +kernel
theorem dX4_takeEnd_23 : decode cX4_takeEnd 23 = .ok (.isub, 1) := by decide +kernel
theorem dX4_takeEnd_24 : decode cX4_takeEnd 24 = .ok (.iastore, 1) := by decide +kernel
theorem dX4_takeEnd_25 : decode cX4_takeEnd 25 = .ok (.aload_n 0, 1) := by decide +kernel
theorem dX4_takeEnd_26 : decode cX4_takeEnd 26 = .ok (.getfield 30, 3) := by decide +kernel
theorem dX4_takeEnd_29 : decode cX4_takeEnd 29 = .ok (.iload_n 2, 1) := by decide +kernel
theorem dX4_takeEnd_30 : decode cX4_takeEnd 30 = .ok (.bipush 40, 2) := by decide +kernel
theorem dX4_takeEnd_32 : decode cX4_takeEnd 32 = .ok (.imul, 1) := by decide +kernel
theorem dX4_takeEnd_33 : decode cX4_takeEnd 33 = .ok (.iload_n 1, 1) := by decide +kernel
theorem dX4_takeEnd_34 : decode cX4_takeEnd 34 = .ok (.iadd, 1) := by decide +kernel
theorem dX4_takeEnd_35 : decode cX4_takeEnd 35 = .ok (.iaload, 1) := by decide +kernel
theorem dX4_takeEnd_36 : decode cX4_takeEnd 36 = .ok (.ifCond .ne 27, 3) := by decide +kernel
theorem dX4_takeEnd_39 : decode cX4_takeEnd 39 = .ok (.aload_n 0, 1) := by decide +kernel
theorem dX4_takeEnd_40 : decode cX4_takeEnd 40 = .ok (.getfield 27, 3) := by decide +kernel
theorem dX4_takeEnd_43 : decode cX4_takeEnd 43 = .ok (.iload_n 1, 1) := by decide +kernel
theorem dX4_takeEnd_44 : decode cX4_takeEnd 44 = .ok (.dup2, 1) := by decide +kernel
theorem dX4_takeEnd_45 : decode cX4_takeEnd 45 = .ok (.iaload, 1) := by decide +kernel
theorem dX4_takeEnd_46 : decode cX4_takeEnd 46 = .ok (.iconst 1, 1) := by decide +kernel
theorem dX4_takeEnd_47 : decode cX4_takeEnd 47 = .ok (.iload_n 2, 1) := by decide +kernel
theorem dX4_takeEnd_48 : decode cX4_takeEnd 48 = .ok (.ishl, 1) := by decide +kernel
theorem dX4_takeEnd_49 : decode cX4_takeEnd 49 = .ok (.iconst (-1), 1) := by decide +kernel
theorem dX4_takeEnd_50 : decode cX4_takeEnd 50 = .ok (.ixor, 1) := by decide +kernel
theorem dX4_takeEnd_51 : decode cX4_takeEnd 51 = .ok (.iand, 1) := by decide +kernel
theorem dX4_takeEnd_52 : decode cX4_takeEnd 52 = .ok (.iastore, 1) := by decide +kernel
theorem dX4_takeEnd_53 : decode cX4_takeEnd 53 = .ok (.aload_n 0, 1) := by decide +kernel
theorem dX4_takeEnd_54 : decode cX4_takeEnd 54 = .ok (.dup, 1) := by decide +kernel
theorem dX4_takeEnd_55 : decode cX4_takeEnd 55 = .ok (.getfield 57, 3) := by decide +kernel
theorem dX4_takeEnd_58 : decode cX4_takeEnd 58 = .ok (.iconst 1, 1) := by decide +kernel
theorem dX4_takeEnd_59 : decode cX4_takeEnd 59 = .ok (.isub, 1) := by decide +kernel
theorem dX4_takeEnd_60 : decode cX4_takeEnd 60 = .ok (.putfield 57, 3) := by decide +kernel
theorem dX4_takeEnd_63 : decode cX4_takeEnd 63 = .ok (.return_, 1) := by decide +kernel
set_option maxHeartbeats 4000000 in
set_option maxRecDepth 100000 in
theorem uX4_takeEnd_63 (C : CX D [(cA, .int)] p s m args meth c A cX4_takeEnd 3 RX4 none) (S : St) : RU D (wX a cA) p l e 1 s m args below meth c A 3 (QV D (wX a cA) [(cA, .int)] A) (fX4_takeEnd_63 S) 63 [] [] S := by
  unfold fX4_takeEnd_63
  exact R_retv C dX4_takeEnd_63
set_option maxHeartbeats 4000000 in
set_option maxRecDepth 100000 in
theorem uX4_takeEnd (C : CX D [(cA, .int)] p s m args meth c A cX4_takeEnd 3 RX4 none) (v1 v2 : Int32) (S : St) : RU D (wX a cA) p l e 1 s m args below meth c A 3 (QV D (wX a cA) [(cA, .int)] A) (fX4_takeEnd v1 v2 S) 0 [] [(0, .ref (a 1)), (1, .int v1), (2, .int v2)] S := by
  unfold fX4_takeEnd
  refine R_aload_n C dX4_takeEnd_0 rfl 0 rfl ?_
  refine gtX_X4_degrees C wd_1_49 dX4_takeEnd_1 ?_
  refine R_iload_n C dX4_takeEnd_4 rfl 1 rfl ?_
  refine R_dup2 C dX4_takeEnd_5 rfl rfl ?_
  refine ldX5 C dX4_takeEnd_6 ?_
  refine R_iconst (v := (1 : Int32)) C dX4_takeEnd_7 (by decide) ?_
  refine R_isub C dX4_takeEnd_8 ?_
  refine svX5 C dX4_takeEnd_9 ?_
  refine R_letS (fun S1 => ?_)
  refine R_aload_n C dX4_takeEnd_10 rfl 0 rfl ?_
  refine gtX_X4_linesAt C wd_1_55 dX4_takeEnd_11 ?_
  refine R_iload_n C dX4_takeEnd_14 rfl 2 rfl ?_
  refine R_bipush (v := (40 : Int32)) C dX4_takeEnd_15 (by decide) ?_
  refine R_imul C dX4_takeEnd_17 ?_
  refine R_iload_n C dX4_takeEnd_18 rfl 1 rfl ?_
  refine R_iadd C dX4_takeEnd_19 ?_
  refine R_dup2 C dX4_takeEnd_20 rfl rfl ?_
  refine ldX7 C dX4_takeEnd_21 ?_
  refine R_iconst (v := (1 : Int32)) C dX4_takeEnd_22 (by decide) ?_
  refine R_isub C dX4_takeEnd_23 ?_
  refine svX7 C dX4_takeEnd_24 ?_
  refine R_letS (fun S2 => ?_)
  refine R_aload_n C dX4_takeEnd_25 rfl 0 rfl ?_
  refine gtX_X4_linesAt C wd_1_55 dX4_takeEnd_26 ?_
  refine R_iload_n C dX4_takeEnd_29 rfl 2 rfl ?_
  refine R_bipush (v := (40 : Int32)) C dX4_takeEnd_30 (by decide) ?_
  refine R_imul C dX4_takeEnd_32 ?_
  refine R_iload_n C dX4_takeEnd_33 rfl 1 rfl ?_
  refine R_iadd C dX4_takeEnd_34 ?_
  refine ldX7 C dX4_takeEnd_35 ?_
  refine R_if_ne (tgt := 63) C dX4_takeEnd_36 (by decide) ?_ ?_
  · refine R_aload_n C dX4_takeEnd_39 rfl 0 rfl ?_
    refine gtX_X4_copyBits C wd_1_53 dX4_takeEnd_40 ?_
    refine R_iload_n C dX4_takeEnd_43 rfl 1 rfl ?_
    refine R_dup2 C dX4_takeEnd_44 rfl rfl ?_
    refine ldX6 C dX4_takeEnd_45 ?_
    refine R_iconst (v := (1 : Int32)) C dX4_takeEnd_46 (by decide) ?_
    refine R_iload_n C dX4_takeEnd_47 rfl 2 rfl ?_
    refine R_ishl C dX4_takeEnd_48 ?_
    refine R_iconst (v := (-1 : Int32)) C dX4_takeEnd_49 (by decide) ?_
    refine R_ixor C dX4_takeEnd_50 ?_
    refine R_iand C dX4_takeEnd_51 ?_
    refine svX6 C dX4_takeEnd_52 ?_
    refine R_letS (fun S3 => ?_)
    refine R_aload_n C dX4_takeEnd_53 rfl 0 rfl ?_
    refine R_dup C dX4_takeEnd_54 rfl ?_
    refine gtX_X4_allCopies C wd_1_71 dX4_takeEnd_55 ?_
    refine R_iconst (v := (1 : Int32)) C dX4_takeEnd_58 (by decide) ?_
    refine R_isub C dX4_takeEnd_59 ?_
    refine ptX_X4_allCopies C wd_1_71 dX4_takeEnd_60 ?_
    refine R_letS (fun S4 => ?_)
    refine R_sub [] rfl ?_
    exact uX4_takeEnd_63 C S4
  · refine R_sub [] rfl ?_
    exact uX4_takeEnd_63 C S2
set_option maxHeartbeats 4000000 in
set_option maxRecDepth 100000 in
theorem kX4_takeEnd (l : Launch) (D : va_G) (a : Nat → Nat) (cA : ClassId) (S : St) (v1 v2 : Int32) : CV l D (wX a cA) [(cA, .int)] yX4_takeEnd (.code yX4_takeEnd cX4_takeEnd 3 none) 1 [.ref (a 1), .int v1, .int v2] (fX4_takeEnd v1 v2 S) S := CV_of rfl (Nat.le_of_ble_eq_true rfl) (fun p e s m args below meth c A C => uX4_takeEnd C v1 v2 S)
end
end
section
/-! walks of the class -/
section
variable {D : va_G} {a : Nat → Nat} {cA cZ : ClassId} {p : Program} {l : Launch} {e : Env} {s : State} {m : MethodId} {args : Array Value} {below : List Frame} {meth : Method} {c : Code} {A : Nat → Prop}

theorem dX4_takeOff_0 : decode cX4_takeOff 0 = .ok (.aload_n 0, 1) := by decide +kernel
theorem dX4_takeOff_1 : decode cX4_takeOff 1 = .ok (.iload_n 1, 1) := by decide +kernel
theorem dX4_takeOff_2 : decode cX4_takeOff 2 = .ok (.invokevirtual 51, 3) := by decide +kernel
theorem dX4_takeOff_5 : decode cX4_takeOff 5 = .ok (.ifCond .ne 5, 3) := by decide +kernel
theorem dX4_takeOff_8 : decode cX4_takeOff 8 = .ok (.iconst 0, 1) := by decide +kernel
theorem dX4_takeOff_9 : decode cX4_takeOff 9 = .ok (.ireturn, 1) := by decide +kernel
theorem dX4_takeOff_10 : decode cX4_takeOff 10 = .ok (.aload_n 0, 1) := by decide +kernel
theorem dX4_takeOff_11 : decode cX4_takeOff 11 = .ok (.getfield 18, 3) := by decide +kernel
theorem dX4_takeOff_14 : decode cX4_takeOff 14 = .ok (.iload_n 1, 1) := by decide +kernel
theorem dX4_takeOff_15 : decode cX4_takeOff 15 = .ok (.iaload, 1) := by decide +kernel
theorem dX4_takeOff_16 : decode cX4_takeOff 16 = .ok (.istore_n 2, 1) := by decide +kernel
theorem dX4_takeOff_17 : decode cX4_takeOff 17 = .ok (.aload_n 0, 1) := by decide +kernel
theorem dX4_takeOff_18 : decode cX4_takeOff 18 = .ok (.getfield 18, 3) := by decide +kernel
theorem dX4_takeOff_21 : decode cX4_takeOff 21 = .ok (.iload_n 1, 1) := by decide +kernel
theorem dX4_takeOff_22 : decode cX4_takeOff 22 = .ok (.iconst (-1), 1) := by decide +kernel
theorem dX4_takeOff_23 : decode cX4_takeOff 23 = .ok (.iastore, 1) := by decide +kernel
theorem dX4_takeOff_24 : decode cX4_takeOff 24 = .ok (.aload_n 0, 1) := by decide +kernel
theorem dX4_takeOff_25 : decode cX4_takeOff 25 = .ok (.getfield 21, 3) := by decide +kernel
theorem dX4_takeOff_28 : decode cX4_takeOff 28 = .ok (.iload_n 2, 1) := by decide +kernel
theorem dX4_takeOff_29 : decode cX4_takeOff 29 = .ok (.dup2, 1) := by decide +kernel
theorem dX4_takeOff_30 : decode cX4_takeOff 30 = .ok (.iaload, 1) := by decide +kernel
theorem dX4_takeOff_31 : decode cX4_takeOff 31 = .ok (.iconst 1, 1) := by decide +kernel
theorem dX4_takeOff_32 : decode cX4_takeOff 32 = .ok (.isub, 1) := by decide +kernel
theorem dX4_takeOff_33 : decode cX4_takeOff 33 = .ok (.iastore, 1) := by decide +kernel
theorem dX4_takeOff_34 : decode cX4_takeOff 34 = .ok (.aload_n 0, 1) := by decide +kernel
theorem dX4_takeOff_35 : decode cX4_takeOff 35 = .ok (.dup, 1) := by decide +kernel
theorem dX4_takeOff_36 : decode cX4_takeOff 36 = .ok (.getfield 44, 3) := by decide +kernel
theorem dX4_takeOff_39 : decode cX4_takeOff 39 = .ok (.iconst 1, 1) := by decide +kernel
theorem dX4_takeOff_40 : decode cX4_takeOff 40 = .ok (.isub, 1) := by decide +kernel
theorem dX4_takeOff_41 : decode cX4_takeOff 41 = .ok (.putfield 44, 3) := by decide +kernel
theorem dX4_takeOff_44 : decode cX4_takeOff 44 = .ok (.aload_n 0, 1) := by decide +kernel
theorem dX4_takeOff_45 : decode cX4_takeOff 45 = .ok (.aload_n 0, 1) := by decide +kernel
theorem dX4_takeOff_46 : decode cX4_takeOff 46 = .ok (.getfield 9, 3) := by decide +kernel
theorem dX4_takeOff_49 : decode cX4_takeOff 49 = .ok (.iload_n 1, 1) := by decide +kernel
theorem dX4_takeOff_50 : decode cX4_takeOff 50 = .ok (.iaload, 1) := by decide +kernel
theorem dX4_takeOff_51 : decode cX4_takeOff 51 = .ok (.iload_n 2, 1) := by decide +kernel
theorem dX4_takeOff_52 : decode cX4_takeOff 52 = .ok (.invokevirtual 54, 3) := by decide +kernel
theorem dX4_takeOff_55 : decode cX4_takeOff 55 = .ok (.aload_n 0, 1) := by decide +kernel
theorem dX4_takeOff_56 : decode cX4_takeOff 56 = .ok (.aload_n 0, 1) := by decide +kernel
theorem dX4_takeOff_57 : decode cX4_takeOff 57 = .ok (.getfield 15, 3) := by decide +kernel
theorem dX4_takeOff_60 : decode cX4_takeOff 60 = .ok (.iload_n 1, 1) := by decide +kernel
theorem dX4_takeOff_61 : decode cX4_takeOff 61 = .ok (.iaload, 1) := by decide +kernel
theorem dX4_takeOff_62 : decode cX4_takeOff 62 = .ok (.iload_n 2, 1) := by decide +kernel
theorem dX4_takeOff_63 : decode cX4_takeOff 63 = .ok (.invokevirtual 54, 3) := by decide +kernel
theorem dX4_takeOff_66 : decode cX4_takeOff 66 = .ok (.iconst 1, 1) := by decide +kernel
theorem dX4_takeOff_67 : decode cX4_takeOff 67 = .ok (.ireturn, 1) := by decide +kernel
set_option maxHeartbeats 4000000 in
set_option maxRecDepth 100000 in
theorem uX4_takeOff (C : CX D [(cA, .int)] p s m args meth c A cX4_takeOff 3 RX4 (some .boolean)) (v1 : Int32) (S : St) : RU D (wX a cA) p l e 2 s m args below meth c A 3 (QI D (wX a cA) [(cA, .int)] A) (fX4_takeOff v1 S) 0 [] [(0, .ref (a 1)), (1, .int v1)] S := by
  unfold fX4_takeOff
  refine R_aload_n C dX4_takeOff_0 rfl 0 rfl ?_
  refine R_iload_n C dX4_takeOff_1 rfl 1 rfl ?_
  refine R_calli (As := [.int v1]) (st := []) C (kX4_isLive l D a cA S v1) (by decide) (by decide) wd_2_53 kwX4_isLive 1 rfl rfl rfl rfl (Nat.le_of_ble_eq_true rfl) dX4_takeOff_2 (fun r1 S2 => ?_)
  refine R_if_ne (tgt := 10) C dX4_takeOff_5 (by decide) ?_ ?_
  · refine R_iconst (v := (0 : Int32)) C dX4_takeOff_8 (by decide) ?_
    exact R_retz C dX4_takeOff_9
  · refine R_aload_n C dX4_takeOff_10 rfl 0 rfl ?_
    refine gtX_X4_hostOf C wd_1_42 dX4_takeOff_11 ?_
    refine R_iload_n C dX4_takeOff_14 rfl 1 rfl ?_
    refine ldX3 C dX4_takeOff_15 ?_
    refine R_let (fun x3 => ?_)
    refine R_istore_n (lv' := [(2, .int x3), (0, .ref (a 1)), (1, .int v1)]) C dX4_takeOff_16 rfl (by decide) rfl ?_
    refine R_aload_n C dX4_takeOff_17 rfl 1 rfl ?_
    refine gtX_X4_hostOf C wd_1_42 dX4_takeOff_18 ?_
    refine R_iload_n C dX4_takeOff_21 rfl 2 rfl ?_
    refine R_iconst (v := (-1 : Int32)) C dX4_takeOff_22 (by decide) ?_
    refine svX3 C dX4_takeOff_23 ?_
    refine R_letS (fun S4 => ?_)
    refine R_aload_n C dX4_takeOff_24 rfl 1 rfl ?_
    refine gtX_X4_loads C wd_1_45 dX4_takeOff_25 ?_
    refine R_iload_n C dX4_takeOff_28 rfl 0 rfl ?_
    refine R_dup2 C dX4_takeOff_29 rfl rfl ?_
    refine ldX4 C dX4_takeOff_30 ?_
    refine R_iconst (v := (1 : Int32)) C dX4_takeOff_31 (by decide) ?_
    refine R_isub C dX4_takeOff_32 ?_
    refine svX4 C dX4_takeOff_33 ?_
    refine R_letS (fun S5 => ?_)
    refine R_aload_n C dX4_takeOff_34 rfl 1 rfl ?_
    refine R_dup C dX4_takeOff_35 rfl ?_
    refine gtX_X4_live C wd_1_68 dX4_takeOff_36 ?_
    refine R_iconst (v := (1 : Int32)) C dX4_takeOff_39 (by decide) ?_
    refine R_isub C dX4_takeOff_40 ?_
    refine ptX_X4_live C wd_1_68 dX4_takeOff_41 ?_
    refine R_letS (fun S6 => ?_)
    refine R_aload_n C dX4_takeOff_44 rfl 1 rfl ?_
    refine R_aload_n C dX4_takeOff_45 rfl 1 rfl ?_
    refine gtX_X4_firstEnd C wd_1_32 dX4_takeOff_46 ?_
    refine R_iload_n C dX4_takeOff_49 rfl 2 rfl ?_
    refine ldX1 C dX4_takeOff_50 ?_
    refine R_iload_n C dX4_takeOff_51 rfl 0 rfl ?_
    refine R_callv (As := [.int (S6.2 1 (ix v1)), .int x3]) (st := []) C (kX4_takeEnd l D a cA S6 (S6.2 1 (ix v1)) x3) (by decide) (by decide) wd_2_57 kwX4_takeEnd 1 rfl rfl rfl rfl (Nat.le_of_ble_eq_true rfl) dX4_takeOff_52 (fun r7 S8 => ?_)
    refine R_aload_n C dX4_takeOff_55 rfl 1 rfl ?_
    refine R_aload_n C dX4_takeOff_56 rfl 1 rfl ?_
    refine gtX_X4_secondEnd C wd_1_37 dX4_takeOff_57 ?_
    refine R_iload_n C dX4_takeOff_60 rfl 2 rfl ?_
    refine ldX2 C dX4_takeOff_61 ?_
    refine R_iload_n C dX4_takeOff_62 rfl 0 rfl ?_
    refine R_callv (As := [.int (S8.2 2 (ix v1)), .int x3]) (st := []) C (kX4_takeEnd l D a cA S8 (S8.2 2 (ix v1)) x3) (by decide) (by decide) wd_2_57 kwX4_takeEnd 1 rfl rfl rfl rfl (Nat.le_of_ble_eq_true rfl) dX4_takeOff_63 (fun r9 S10 => ?_)
    refine R_iconst (v := (1 : Int32)) C dX4_takeOff_66 (by decide) ?_
    exact R_retz C dX4_takeOff_67
set_option maxHeartbeats 4000000 in
set_option maxRecDepth 100000 in
theorem kX4_takeOff (l : Launch) (D : va_G) (a : Nat → Nat) (cA : ClassId) (S : St) (v1 : Int32) : CI l D (wX a cA) [(cA, .int)] yX4_takeOff (.code yX4_takeOff cX4_takeOff 3 (some .boolean)) 2 [.ref (a 1), .int v1] (fX4_takeOff v1 S) S := CI_of rfl (Nat.le_of_ble_eq_true rfl) (fun p e s m args below meth c A C => uX4_takeOff C v1 S)
theorem dX6_keepWindow_0 : decode cX6_keepWindow 0 = .ok (.aload_n 0, 1) := by decide +kernel
theorem dX6_keepWindow_1 : decode cX6_keepWindow 1 = .ok (.getfield 98, 3) := by decide +kernel
theorem dX6_keepWindow_4 : decode cX6_keepWindow 4 = .ok (.ifCond .ne 4, 3) := by decide +kernel
theorem dX6_keepWindow_7 : decode cX6_keepWindow 7 = .ok (.return_, 1) := by decide +kernel
theorem dX6_keepWindow_8 : decode cX6_keepWindow 8 = .ok (.iconst 0, 1) := by decide +kernel
theorem dX6_keepWindow_9 : decode cX6_keepWindow 9 = .ok (.istore_n 1, 1) := by decide +kernel
theorem dX6_keepWindow_10 : decode cX6_keepWindow 10 = .ok (.iload_n 1, 1) := by decide +kernel
theorem dX6_keepWindow_11 : decode cX6_keepWindow 11 = .ok (.aload_n 0, 1) := by decide +kernel
theorem dX6_keepWindow_12 : decode cX6_keepWindow 12 = .ok (.getfield 23, 3) := by decide +kernel
theorem dX6_keepWindow_15 : decode cX6_keepWindow 15 = .ok (.getfield 72, 3) := by decide +kernel
theorem dX6_keepWindow_18 : decode cX6_keepWindow 18 = .ok (.if_icmp .ge 32, 3) := by decide +kernel
theorem dX6_keepWindow_21 : decode cX6_keepWindow 21 = .ok (.aload_n 0, 1) := by decide +kernel
theorem dX6_keepWindow_22 : decode cX6_keepWindow 22 = .ok (.getfield 23, 3) := by decide +kernel
theorem dX6_keepWindow_25 : decode cX6_keepWindow 25 = .ok (.getfield 139, 3) := by decide +kernel
theorem dX6_keepWindow_28 : decode cX6_keepWindow 28 = .ok (.aload_n 0, 1) := by decide +kernel
theorem dX6_keepWindow_29 : decode cX6_keepWindow 29 = .ok (.getfield 98, 3) := by decide +kernel
theorem dX6_keepWindow_32 : decode cX6_keepWindow 32 = .ok (.if_icmp .le 18, 3) := by decide +kernel
theorem dX6_keepWindow_35 : decode cX6_keepWindow 35 = .ok (.aload_n 0, 1) := by decide +kernel
theorem dX6_keepWindow_36 : decode cX6_keepWindow 36 = .ok (.getfield 23, 3) := by decide +kernel
theorem dX6_keepWindow_39 : decode cX6_keepWindow 39 = .ok (.iload_n 1, 1) := by decide +kernel
theorem dX6_keepWindow_40 : decode cX6_keepWindow 40 = .ok (.invokevirtual 101, 3) := by decide +kernel
theorem dX6_keepWindow_43 : decode cX6_keepWindow 43 = .ok (.pop, 1) := by decide +kernel
theorem dX6_keepWindow_44 : decode cX6_keepWindow 44 = .ok (.iinc 1 1, 3) := by decide +kernel
theorem dX6_keepWindow_47 : decode cX6_keepWindow 47 = .ok (.goto (-37), 3) := by decide +kernel
theorem dX6_keepWindow_50 : decode cX6_keepWindow 50 = .ok (.return_, 1) := by decide +kernel
set_option maxHeartbeats 4000000 in
set_option maxRecDepth 100000 in
theorem uX6_keepWindow_50 (C : CX D [(cA, .int)] p s m args meth c A cX6_keepWindow 2 RX6 none) (S : St) : RU D (wX a cA) p l e 3 s m args below meth c A 2 (QV D (wX a cA) [(cA, .int)] A) (fX6_keepWindow_50 S) 50 [] [] S := by
  unfold fX6_keepWindow_50
  exact R_retv C dX6_keepWindow_50
set_option maxHeartbeats 4000000 in
set_option maxRecDepth 100000 in
theorem uX6_keepWindow_10_b (C : CX D [(cA, .int)] p s m args meth c A cX6_keepWindow 2 RX6 none) (k10 : Int32 → St → Rs) (h10 : ∀ (v1 : Int32) (S : St), RU D (wX a cA) p l e 3 s m args below meth c A 2 (QV D (wX a cA) [(cA, .int)] A) (k10 v1 S) 10 [] [(0, .ref (a 0)), (1, .int v1)] S) (v1 : Int32) (S : St) : RU D (wX a cA) p l e 3 s m args below meth c A 2 (QV D (wX a cA) [(cA, .int)] A) (fX6_keepWindow_10_b k10 v1 S) 10 [] [(0, .ref (a 0)), (1, .int v1)] S := by
  unfold fX6_keepWindow_10_b
  refine R_iload_n C dX6_keepWindow_10 rfl 1 rfl ?_
  refine R_aload_n C dX6_keepWindow_11 rfl 0 rfl ?_
  refine gtX_X6_net C wd_1_205 dX6_keepWindow_12 ?_
  refine gtX_X4_came C wd_1_62 dX6_keepWindow_15 ?_
  refine R_icmp_ge (tgt := 50) C dX6_keepWindow_18 (by decide) ?_ ?_
  · refine R_sub [] rfl ?_
    exact uX6_keepWindow_50 C S
  · refine R_aload_n C dX6_keepWindow_21 rfl 0 rfl ?_
    refine gtX_X6_net C wd_1_205 dX6_keepWindow_22 ?_
    refine gtX_X4_live C wd_1_69 dX6_keepWindow_25 ?_
    refine R_aload_n C dX6_keepWindow_28 rfl 0 rfl ?_
    refine gtX_X6_windowSize C wd_1_212 dX6_keepWindow_29 ?_
    refine R_icmp_le (tgt := 50) C dX6_keepWindow_32 (by decide) ?_ ?_
    · refine R_sub [] rfl ?_
      exact uX6_keepWindow_50 C S
    · refine R_aload_n C dX6_keepWindow_35 rfl 0 rfl ?_
      refine gtX_X6_net C wd_1_205 dX6_keepWindow_36 ?_
      refine R_iload_n C dX6_keepWindow_39 rfl 1 rfl ?_
      refine R_calli (As := [.int v1]) (st := []) C (kX4_takeOff l D a cA S v1) (by decide) (by decide) wd_2_49 kwX4_takeOff 1 rfl rfl rfl rfl (Nat.le_of_ble_eq_true rfl) dX6_keepWindow_40 (fun r1 S2 => ?_)
      refine R_pop C dX6_keepWindow_43 rfl ?_
      refine R_iinc (v := v1 + 1) (lv' := [(1, .int (v1 + 1)), (0, .ref (a 0))]) C dX6_keepWindow_44 1 rfl rfl (by decide) rfl ?_
      refine R_goto (tgt := 10) C dX6_keepWindow_47 (by decide) ?_
      refine R_sub [1, 0] rfl ?_
      exact h10 (v1 + 1) S2
set_option maxHeartbeats 4000000 in
set_option maxRecDepth 100000 in
theorem uX6_keepWindow_10 (C : CX D [(cA, .int)] p s m args meth c A cX6_keepWindow 2 RX6 none) : ∀ (n : Nat) (v1 : Int32) (S : St), RU D (wX a cA) p l e 3 s m args below meth c A 2 (QV D (wX a cA) [(cA, .int)] A) (fX6_keepWindow_10 n v1 S) 10 [] [(0, .ref (a 0)), (1, .int v1)] S := by
  intro n
  induction n with
  | zero => intro v1 S; exact R_none
  | succ n ih => intro v1 S; exact uX6_keepWindow_10_b C _ ih v1 S
set_option maxHeartbeats 4000000 in
set_option maxRecDepth 100000 in
theorem uX6_keepWindow (C : CX D [(cA, .int)] p s m args meth c A cX6_keepWindow 2 RX6 none) (S : St) : RU D (wX a cA) p l e 3 s m args below meth c A 2 (QV D (wX a cA) [(cA, .int)] A) (fX6_keepWindow S) 0 [] [(0, .ref (a 0))] S := by
  unfold fX6_keepWindow
  refine R_aload_n C dX6_keepWindow_0 rfl 0 rfl ?_
  refine gtX_X6_windowSize C wd_1_212 dX6_keepWindow_1 ?_
  refine R_if_ne (tgt := 8) C dX6_keepWindow_4 (by decide) ?_ ?_
  · exact R_retv C dX6_keepWindow_7
  · refine R_iconst (v := (0 : Int32)) C dX6_keepWindow_8 (by decide) ?_
    refine R_istore_n (lv' := [(1, .int (0 : Int32)), (0, .ref (a 0))]) C dX6_keepWindow_9 rfl (by decide) rfl ?_
    refine R_sub [1, 0] rfl ?_
    exact uX6_keepWindow_10 C FU (0 : Int32) S
set_option maxHeartbeats 4000000 in
set_option maxRecDepth 100000 in
theorem kX6_keepWindow (l : Launch) (D : va_G) (a : Nat → Nat) (cA : ClassId) (S : St) : CV l D (wX a cA) [(cA, .int)] yX6_keepWindow (.code yX6_keepWindow cX6_keepWindow 2 none) 3 [.ref (a 0)] (fX6_keepWindow S) S := CV_of rfl (Nat.le_of_ble_eq_true rfl) (fun p e s m args below meth c A C => uX6_keepWindow C S)
theorem dX6_line_0 : decode cX6_line 0 = .ok (.iload_n 1, 1) := by decide +kernel
theorem dX6_line_1 : decode cX6_line 1 = .ok (.invokestatic 68, 3) := by decide +kernel
theorem dX6_line_4 : decode cX6_line 4 = .ok (.ifCond .eq 28, 3) := by decide +kernel
theorem dX6_line_7 : decode cX6_line 7 = .ok (.iload_n 2, 1) := by decide +kernel
theorem dX6_line_8 : decode cX6_line 8 = .ok (.invokestatic 68, 3) := by decide +kernel
theorem dX6_line_11 : decode cX6_line 11 = .ok (.ifCond .eq 21, 3) := by decide +kernel
theorem dX6_line_14 : decode cX6_line 14 = .ok (.iload_n 1, 1) := by decide +kernel
theorem dX6_line_15 : decode cX6_line 15 = .ok (.iload_n 2, 1) := by decide +kernel
theorem dX6_line_16 : decode cX6_line 16 = .ok (.if_icmp .eq 16, 3) := by decide +kernel
theorem dX6_line_19 : decode cX6_line 19 = .ok (.aload_n 0, 1) := by decide +kernel
theorem dX6_line_20 : decode cX6_line 20 = .ok (.getfield 23, 3) := by decide +kernel
theorem dX6_line_23 : decode cX6_line 23 = .ok (.getfield 72, 3) := by decide +kernel
theorem dX6_line_26 : decode cX6_line 26 = .ok (.sipush 300, 3) := by decide +kernel
theorem dX6_line_29 : decode cX6_line 29 = .ok (.if_icmp .lt 5, 3) := by decide +kernel
theorem dX6_line_32 : decode cX6_line 32 = .ok (.iconst (-1), 1) := by decide +kernel
theorem dX6_line_33 : decode cX6_line 33 = .ok (.ireturn, 1) := by decide +kernel
theorem dX6_line_34 : decode cX6_line 34 = .ok (.aload_n 0, 1) := by decide +kernel
theorem dX6_line_35 : decode cX6_line 35 = .ok (.getfield 32, 3) := by decide +kernel
theorem dX6_line_38 : decode cX6_line 38 = .ok (.aload_n 0, 1) := by decide +kernel
theorem dX6_line_39 : decode cX6_line 39 = .ok (.getfield 23, 3) := by decide +kernel
theorem dX6_line_42 : decode cX6_line 42 = .ok (.iload_n 1, 1) := by decide +kernel
theorem dX6_line_43 : decode cX6_line 43 = .ok (.iload_n 2, 1) := by decide +kernel
theorem dX6_line_44 : decode cX6_line 44 = .ok (.invokevirtual 76, 3) := by decide +kernel
theorem dX6_line_47 : decode cX6_line 47 = .ok (.invokevirtual 79, 3) := by decide +kernel
theorem dX6_line_50 : decode cX6_line 50 = .ok (.istore_n 3, 1) := by decide +kernel
theorem dX6_line_51 : decode cX6_line 51 = .ok (.aload_n 0, 1) := by decide +kernel
theorem dX6_line_52 : decode cX6_line 52 = .ok (.invokevirtual 83, 3) := by decide +kernel
theorem dX6_line_55 : decode cX6_line 55 = .ok (.iload_n 3, 1) := by decide +kernel
theorem dX6_line_56 : decode cX6_line 56 = .ok (.ireturn, 1) := by decide +kernel
set_option maxHeartbeats 4000000 in
set_option maxRecDepth 100000 in
theorem uX6_line_32 (C : CX D [(cA, .int)] p s m args meth c A cX6_line 4 RX6 (some .int)) (S : St) : RU D (wX a cA) p l e 6 s m args below meth c A 4 (QI D (wX a cA) [(cA, .int)] A) (fX6_line_32 S) 32 [] [] S := by
  unfold fX6_line_32
  refine R_iconst (v := (-1 : Int32)) C dX6_line_32 (by decide) ?_
  exact R_reti C dX6_line_33
set_option maxHeartbeats 4000000 in
set_option maxRecDepth 100000 in
theorem uX6_line (C : CX D [(cA, .int)] p s m args meth c A cX6_line 4 RX6 (some .int)) (v1 v2 : Int32) (S : St) : RU D (wX a cA) p l e 6 s m args below meth c A 4 (QI D (wX a cA) [(cA, .int)] A) (fX6_line v1 v2 S) 0 [] [(0, .ref (a 0)), (1, .int v1), (2, .int v2)] S := by
  unfold fX6_line
  refine R_iload_n C dX6_line_0 rfl 1 rfl ?_
  refine R_calls (As := [.int v1]) (st := []) C (kX6_isPoint l D a cA S v1) (by decide) (by decide) wd_1_237 kwX6_isPoint rfl rfl (Nat.le_of_ble_eq_true rfl) dX6_line_1 (fun r1 S2 => ?_)
  refine R_if_eq (tgt := 32) C dX6_line_4 (by decide) ?_ ?_
  · refine R_sub [] rfl ?_
    exact uX6_line_32 C S2
  · refine R_iload_n C dX6_line_7 rfl 2 rfl ?_
    refine R_calls (As := [.int v2]) (st := []) C (kX6_isPoint l D a cA S2 v2) (by decide) (by decide) wd_1_237 kwX6_isPoint rfl rfl (Nat.le_of_ble_eq_true rfl) dX6_line_8 (fun r3 S4 => ?_)
    refine R_if_eq (tgt := 32) C dX6_line_11 (by decide) ?_ ?_
    · refine R_sub [] rfl ?_
      exact uX6_line_32 C S4
    · refine R_iload_n C dX6_line_14 rfl 1 rfl ?_
      refine R_iload_n C dX6_line_15 rfl 2 rfl ?_
      refine R_icmp_eq (tgt := 32) C dX6_line_16 (by decide) ?_ ?_
      · refine R_sub [] rfl ?_
        exact uX6_line_32 C S4
      · refine R_aload_n C dX6_line_19 rfl 0 rfl ?_
        refine gtX_X6_net C wd_1_205 dX6_line_20 ?_
        refine gtX_X4_came C wd_1_62 dX6_line_23 ?_
        refine R_sipush (v := (300 : Int32)) C dX6_line_26 (by decide) ?_
        refine R_icmp_lt (tgt := 34) C dX6_line_29 (by decide) ?_ ?_
        · refine R_aload_n C dX6_line_34 rfl 0 rfl ?_
          refine gtX_X6_dealing C wd_1_206 dX6_line_35 ?_
          refine R_aload_n C dX6_line_38 rfl 0 rfl ?_
          refine gtX_X6_net C wd_1_205 dX6_line_39 ?_
          refine R_iload_n C dX6_line_42 rfl 1 rfl ?_
          refine R_iload_n C dX6_line_43 rfl 2 rfl ?_
          refine R_calli (As := [.int v1, .int v2]) (st := [.ref (a 2)]) C (kX4_addLine l D a cA S4 v1 v2) (by decide) (by decide) wd_2_0 kwX4_addLine 1 rfl rfl rfl rfl (Nat.le_of_ble_eq_true rfl) dX6_line_44 (fun r5 S6 => ?_)
          refine R_calli (As := [.int r5]) (st := []) C (kX1_dealLine l D a cA S6 r5) (by decide) (by decide) wd_2_4 kwX1_dealLine 2 rfl rfl rfl rfl (Nat.le_of_ble_eq_true rfl) dX6_line_47 (fun r7 S8 => ?_)
          refine R_istore_n (lv' := [(3, .int r7), (0, .ref (a 0)), (1, .int v1), (2, .int v2)]) C dX6_line_50 rfl (by decide) rfl ?_
          refine R_aload_n C dX6_line_51 rfl 1 rfl ?_
          refine R_callv (As := []) (st := []) C (kX6_keepWindow l D a cA S8) (by decide) (by decide) wd_2_45 kwX6_keepWindow 0 rfl rfl rfl rfl (Nat.le_of_ble_eq_true rfl) dX6_line_52 (fun r9 S10 => ?_)
          refine R_iload_n C dX6_line_55 rfl 0 rfl ?_
          exact R_reti C dX6_line_56
        · refine R_sub [] rfl ?_
          exact uX6_line_32 C S4
set_option maxHeartbeats 4000000 in
set_option maxRecDepth 100000 in
theorem kX6_line (l : Launch) (D : va_G) (a : Nat → Nat) (cA : ClassId) (S : St) (v1 v2 : Int32) : CI l D (wX a cA) [(cA, .int)] yX6_line (.code yX6_line cX6_line 4 (some .int)) 6 [.ref (a 0), .int v1, .int v2] (fX6_line v1 v2 S) S := CI_of rfl (Nat.le_of_ble_eq_true rfl) (fun p e s m args below meth c A C => uX6_line C v1 v2 S)
theorem dX6_rule_0 : decode cX6_rule 0 = .ok (.iload_n 1, 1) := by decide +kernel
theorem dX6_rule_1 : decode cX6_rule 1 = .ok (.ifCond .lt 8, 3) := by decide +kernel
theorem dX6_rule_4 : decode cX6_rule 4 = .ok (.iload_n 1, 1) := by decide +kernel
theorem dX6_rule_5 : decode cX6_rule 5 = .ok (.iconst 2, 1) := by decide +kernel
theorem dX6_rule_6 : decode cX6_rule 6 = .ok (.if_icmp .le 5, 3) := by decide +kernel
theorem dX6_rule_9 : decode cX6_rule 9 = .ok (.iconst 0, 1) := by decide +kernel
theorem dX6_rule_10 : decode cX6_rule 10 = .ok (.ireturn, 1) := by decide +kernel
theorem dX6_rule_11 : decode cX6_rule 11 = .ok (.aload_n 0, 1) := by decide +kernel
theorem dX6_rule_12 : decode cX6_rule 12 = .ok (.getfield 32, 3) := by decide +kernel
theorem dX6_rule_15 : decode cX6_rule 15 = .ok (.iload_n 1, 1) := by decide +kernel
theorem dX6_rule_16 : decode cX6_rule 16 = .ok (.putfield 86, 3) := by decide +kernel
theorem dX6_rule_19 : decode cX6_rule 19 = .ok (.iconst 1, 1) := by decide +kernel
theorem dX6_rule_20 : decode cX6_rule 20 = .ok (.ireturn, 1) := by decide +kernel
set_option maxHeartbeats 4000000 in
set_option maxRecDepth 100000 in
theorem uX6_rule_9 (C : CX D [(cA, .int)] p s m args meth c A cX6_rule 2 RX6 (some .boolean)) (S : St) : RU D (wX a cA) p l e 1 s m args below meth c A 2 (QI D (wX a cA) [(cA, .int)] A) (fX6_rule_9 S) 9 [] [] S := by
  unfold fX6_rule_9
  refine R_iconst (v := (0 : Int32)) C dX6_rule_9 (by decide) ?_
  exact R_retz C dX6_rule_10
set_option maxHeartbeats 4000000 in
set_option maxRecDepth 100000 in
theorem uX6_rule (C : CX D [(cA, .int)] p s m args meth c A cX6_rule 2 RX6 (some .boolean)) (v1 : Int32) (S : St) : RU D (wX a cA) p l e 1 s m args below meth c A 2 (QI D (wX a cA) [(cA, .int)] A) (fX6_rule v1 S) 0 [] [(0, .ref (a 0)), (1, .int v1)] S := by
  unfold fX6_rule
  refine R_iload_n C dX6_rule_0 rfl 1 rfl ?_
  refine R_if_lt (tgt := 9) C dX6_rule_1 (by decide) ?_ ?_
  · refine R_sub [] rfl ?_
    exact uX6_rule_9 C S
  · refine R_iload_n C dX6_rule_4 rfl 1 rfl ?_
    refine R_iconst (v := (2 : Int32)) C dX6_rule_5 (by decide) ?_
    refine R_icmp_le (tgt := 11) C dX6_rule_6 (by decide) ?_ ?_
    · refine R_aload_n C dX6_rule_11 rfl 0 rfl ?_
      refine gtX_X6_dealing C wd_1_206 dX6_rule_12 ?_
      refine R_iload_n C dX6_rule_15 rfl 1 rfl ?_
      refine ptX_X1_ruleNow C wd_1_105 dX6_rule_16 ?_
      refine R_letS (fun S1 => ?_)
      refine R_iconst (v := (1 : Int32)) C dX6_rule_19 (by decide) ?_
      exact R_retz C dX6_rule_20
    · refine R_sub [] rfl ?_
      exact uX6_rule_9 C S
set_option maxHeartbeats 4000000 in
set_option maxRecDepth 100000 in
theorem kX6_rule (l : Launch) (D : va_G) (a : Nat → Nat) (cA : ClassId) (S : St) (v1 : Int32) : CI l D (wX a cA) [(cA, .int)] yX6_rule (.code yX6_rule cX6_rule 2 (some .boolean)) 1 [.ref (a 0), .int v1] (fX6_rule v1 S) S := CI_of rfl (Nat.le_of_ble_eq_true rfl) (fun p e s m args below meth c A C => uX6_rule C v1 S)
theorem dX6_isWeight_0 : decode cX6_isWeight 0 = .ok (.iload_n 0, 1) := by decide +kernel
theorem dX6_isWeight_1 : decode cX6_isWeight 1 = .ok (.ifCond .lt 13, 3) := by decide +kernel
theorem dX6_isWeight_4 : decode cX6_isWeight 4 = .ok (.iload_n 0, 1) := by decide +kernel
theorem dX6_isWeight_5 : decode cX6_isWeight 5 = .ok (.bipush 100, 2) := by decide +kernel
theorem dX6_isWeight_7 : decode cX6_isWeight 7 = .ok (.if_icmp .gt 7, 3) := by decide +kernel
theorem dX6_isWeight_10 : decode cX6_isWeight 10 = .ok (.iconst 1, 1) := by decide +kernel
theorem dX6_isWeight_11 : decode cX6_isWeight 11 = .ok (.goto 4, 3) := by decide +kernel
theorem dX6_isWeight_14 : decode cX6_isWeight 14 = .ok (.iconst 0, 1) := by decide +kernel
theorem dX6_isWeight_15 : decode cX6_isWeight 15 = .ok (.ireturn, 1) := by decide +kernel
set_option maxHeartbeats 4000000 in
set_option maxRecDepth 100000 in
theorem uX6_isWeight_15 (C : CX D [(cA, .int)] p s m args meth c A cX6_isWeight 1 RX6 (some .boolean)) (t0 : Int32) (S : St) : RU D (wX a cA) p l e 1 s m args below meth c A 1 (QI D (wX a cA) [(cA, .int)] A) (fX6_isWeight_15 t0 S) 15 [.int t0] [] S := by
  unfold fX6_isWeight_15
  exact R_retz C dX6_isWeight_15
set_option maxHeartbeats 4000000 in
set_option maxRecDepth 100000 in
theorem uX6_isWeight_14 (C : CX D [(cA, .int)] p s m args meth c A cX6_isWeight 1 RX6 (some .boolean)) (S : St) : RU D (wX a cA) p l e 1 s m args below meth c A 1 (QI D (wX a cA) [(cA, .int)] A) (fX6_isWeight_14 S) 14 [] [] S := by
  unfold fX6_isWeight_14
  refine R_iconst (v := (0 : Int32)) C dX6_isWeight_14 (by decide) ?_
  exact uX6_isWeight_15 C (0 : Int32) S
set_option maxHeartbeats 4000000 in
set_option maxRecDepth 100000 in
theorem uX6_isWeight (C : CX D [(cA, .int)] p s m args meth c A cX6_isWeight 1 RX6 (some .boolean)) (v0 : Int32) (S : St) : RU D (wX a cA) p l e 1 s m args below meth c A 1 (QI D (wX a cA) [(cA, .int)] A) (fX6_isWeight v0 S) 0 [] [(0, .int v0)] S := by
  unfold fX6_isWeight
  refine R_iload_n C dX6_isWeight_0 rfl 0 rfl ?_
  refine R_if_lt (tgt := 14) C dX6_isWeight_1 (by decide) ?_ ?_
  · refine R_sub [] rfl ?_
    exact uX6_isWeight_14 C S
  · refine R_iload_n C dX6_isWeight_4 rfl 0 rfl ?_
    refine R_bipush (v := (100 : Int32)) C dX6_isWeight_5 (by decide) ?_
    refine R_icmp_gt (tgt := 14) C dX6_isWeight_7 (by decide) ?_ ?_
    · refine R_sub [] rfl ?_
      exact uX6_isWeight_14 C S
    · refine R_iconst (v := (1 : Int32)) C dX6_isWeight_10 (by decide) ?_
      refine R_goto (tgt := 15) C dX6_isWeight_11 (by decide) ?_
      refine R_sub [] rfl ?_
      exact uX6_isWeight_15 C (1 : Int32) S
set_option maxHeartbeats 4000000 in
set_option maxRecDepth 100000 in
theorem kX6_isWeight (l : Launch) (D : va_G) (a : Nat → Nat) (cA : ClassId) (S : St) (v0 : Int32) : CI l D (wX a cA) [(cA, .int)] yX6_isWeight (.code yX6_isWeight cX6_isWeight 1 (some .boolean)) 1 [.int v0] (fX6_isWeight v0 S) S := CI_of rfl (Nat.le_of_ble_eq_true rfl) (fun p e s m args below meth c A C => uX6_isWeight C v0 S)
theorem dX6_weights_0 : decode cX6_weights 0 = .ok (.iload_n 1, 1) := by decide +kernel
theorem dX6_weights_1 : decode cX6_weights 1 = .ok (.invokestatic 89, 3) := by decide +kernel
theorem dX6_weights_4 : decode cX6_weights 4 = .ok (.ifCond .eq 10, 3) := by decide +kernel
theorem dX6_weights_7 : decode cX6_weights 7 = .ok (.iload_n 2, 1) := by decide +kernel
theorem dX6_weights_8 : decode cX6_weights 8 = .ok (.invokestatic 89, 3) := by decide +kernel
theorem dX6_weights_11 : decode cX6_weights 11 = .ok (.ifCond .ne 5, 3) := by decide +kernel
theorem dX6_weights_14 : decode cX6_weights 14 = .ok (.iconst 0, 1) := by decide +kernel
theorem dX6_weights_15 : decode cX6_weights 15 = .ok (.ireturn, 1) := by decide +kernel
theorem dX6_weights_16 : decode cX6_weights 16 = .ok (.aload_n 0, 1) := by decide +kernel
theorem dX6_weights_17 : decode cX6_weights 17 = .ok (.getfield 32, 3) := by decide +kernel
theorem dX6_weights_20 : decode cX6_weights 20 = .ok (.iload_n 1, 1) := by decide +kernel
theorem dX6_weights_21 : decode cX6_weights 21 = .ok (.putfield 92, 3) := by decide +kernel
theorem dX6_weights_24 : decode cX6_weights 24 = .ok (.aload_n 0, 1) := by decide +kernel
theorem dX6_weights_25 : decode cX6_weights 25 = .ok (.getfield 32, 3) := by decide +kernel
theorem dX6_weights_28 : decode cX6_weights 28 = .ok (.iload_n 2, 1) := by decide +kernel
theorem dX6_weights_29 : decode cX6_weights 29 = .ok (.putfield 95, 3) := by decide +kernel
theorem dX6_weights_32 : decode cX6_weights 32 = .ok (.iconst 1, 1) := by decide +kernel
theorem dX6_weights_33 : decode cX6_weights 33 = .ok (.ireturn, 1) := by decide +kernel
set_option maxHeartbeats 4000000 in
set_option maxRecDepth 100000 in
theorem uX6_weights_14 (C : CX D [(cA, .int)] p s m args meth c A cX6_weights 3 RX6 (some .boolean)) (S : St) : RU D (wX a cA) p l e 2 s m args below meth c A 3 (QI D (wX a cA) [(cA, .int)] A) (fX6_weights_14 S) 14 [] [] S := by
  unfold fX6_weights_14
  refine R_iconst (v := (0 : Int32)) C dX6_weights_14 (by decide) ?_
  exact R_retz C dX6_weights_15
set_option maxHeartbeats 4000000 in
set_option maxRecDepth 100000 in
theorem uX6_weights (C : CX D [(cA, .int)] p s m args meth c A cX6_weights 3 RX6 (some .boolean)) (v1 v2 : Int32) (S : St) : RU D (wX a cA) p l e 2 s m args below meth c A 3 (QI D (wX a cA) [(cA, .int)] A) (fX6_weights v1 v2 S) 0 [] [(0, .ref (a 0)), (1, .int v1), (2, .int v2)] S := by
  unfold fX6_weights
  refine R_iload_n C dX6_weights_0 rfl 1 rfl ?_
  refine R_calls (As := [.int v1]) (st := []) C (kX6_isWeight l D a cA S v1) (by decide) (by decide) wd_2_69 kwX6_isWeight rfl rfl (Nat.le_of_ble_eq_true rfl) dX6_weights_1 (fun r1 S2 => ?_)
  refine R_if_eq (tgt := 14) C dX6_weights_4 (by decide) ?_ ?_
  · refine R_sub [] rfl ?_
    exact uX6_weights_14 C S2
  · refine R_iload_n C dX6_weights_7 rfl 2 rfl ?_
    refine R_calls (As := [.int v2]) (st := []) C (kX6_isWeight l D a cA S2 v2) (by decide) (by decide) wd_2_69 kwX6_isWeight rfl rfl (Nat.le_of_ble_eq_true rfl) dX6_weights_8 (fun r3 S4 => ?_)
    refine R_if_ne (tgt := 16) C dX6_weights_11 (by decide) ?_ ?_
    · refine R_sub [] rfl ?_
      exact uX6_weights_14 C S4
    · refine R_aload_n C dX6_weights_16 rfl 0 rfl ?_
      refine gtX_X6_dealing C wd_1_206 dX6_weights_17 ?_
      refine R_iload_n C dX6_weights_20 rfl 1 rfl ?_
      refine ptX_X1_slack C wd_1_107 dX6_weights_21 ?_
      refine R_letS (fun S5 => ?_)
      refine R_aload_n C dX6_weights_24 rfl 0 rfl ?_
      refine gtX_X6_dealing C wd_1_206 dX6_weights_25 ?_
      refine R_iload_n C dX6_weights_28 rfl 2 rfl ?_
      refine ptX_X1_lean C wd_1_109 dX6_weights_29 ?_
      refine R_letS (fun S6 => ?_)
      refine R_iconst (v := (1 : Int32)) C dX6_weights_32 (by decide) ?_
      exact R_retz C dX6_weights_33
set_option maxHeartbeats 4000000 in
set_option maxRecDepth 100000 in
theorem kX6_weights (l : Launch) (D : va_G) (a : Nat → Nat) (cA : ClassId) (S : St) (v1 v2 : Int32) : CI l D (wX a cA) [(cA, .int)] yX6_weights (.code yX6_weights cX6_weights 3 (some .boolean)) 2 [.ref (a 0), .int v1, .int v2] (fX6_weights v1 v2 S) S := CI_of rfl (Nat.le_of_ble_eq_true rfl) (fun p e s m args below meth c A C => uX6_weights C v1 v2 S)
theorem dX6_window_0 : decode cX6_window 0 = .ok (.iload_n 1, 1) := by decide +kernel
theorem dX6_window_1 : decode cX6_window 1 = .ok (.ifCond .lt 10, 3) := by decide +kernel
theorem dX6_window_4 : decode cX6_window 4 = .ok (.iload_n 1, 1) := by decide +kernel
theorem dX6_window_5 : decode cX6_window 5 = .ok (.sipush 300, 3) := by decide +kernel
theorem dX6_window_8 : decode cX6_window 8 = .ok (.if_icmp .le 5, 3) := by decide +kernel
theorem dX6_window_11 : decode cX6_window 11 = .ok (.iconst 0, 1) := by decide +kernel
theorem dX6_window_12 : decode cX6_window 12 = .ok (.ireturn, 1) := by decide +kernel
theorem dX6_window_13 : decode cX6_window 13 = .ok (.aload_n 0, 1) := by decide +kernel
theorem dX6_window_14 : decode cX6_window 14 = .ok (.iload_n 1, 1) := by decide +kernel
theorem dX6_window_15 : decode cX6_window 15 = .ok (.putfield 98, 3) := by decide +kernel
theorem dX6_window_18 : decode cX6_window 18 = .ok (.aload_n 0, 1) := by decide +kernel
theorem dX6_window_19 : decode cX6_window 19 = .ok (.invokevirtual 83, 3) := by decide +kernel
theorem dX6_window_22 : decode cX6_window 22 = .ok (.iconst 1, 1) := by decide +kernel
theorem dX6_window_23 : decode cX6_window 23 = .ok (.ireturn, 1) := by decide +kernel
set_option maxHeartbeats 4000000 in
set_option maxRecDepth 100000 in
theorem uX6_window_11 (C : CX D [(cA, .int)] p s m args meth c A cX6_window 2 RX6 (some .boolean)) (S : St) : RU D (wX a cA) p l e 4 s m args below meth c A 2 (QI D (wX a cA) [(cA, .int)] A) (fX6_window_11 S) 11 [] [] S := by
  unfold fX6_window_11
  refine R_iconst (v := (0 : Int32)) C dX6_window_11 (by decide) ?_
  exact R_retz C dX6_window_12
set_option maxHeartbeats 4000000 in
set_option maxRecDepth 100000 in
theorem uX6_window (C : CX D [(cA, .int)] p s m args meth c A cX6_window 2 RX6 (some .boolean)) (v1 : Int32) (S : St) : RU D (wX a cA) p l e 4 s m args below meth c A 2 (QI D (wX a cA) [(cA, .int)] A) (fX6_window v1 S) 0 [] [(0, .ref (a 0)), (1, .int v1)] S := by
  unfold fX6_window
  refine R_iload_n C dX6_window_0 rfl 1 rfl ?_
  refine R_if_lt (tgt := 11) C dX6_window_1 (by decide) ?_ ?_
  · refine R_sub [] rfl ?_
    exact uX6_window_11 C S
  · refine R_iload_n C dX6_window_4 rfl 1 rfl ?_
    refine R_sipush (v := (300 : Int32)) C dX6_window_5 (by decide) ?_
    refine R_icmp_le (tgt := 13) C dX6_window_8 (by decide) ?_ ?_
    · refine R_aload_n C dX6_window_13 rfl 0 rfl ?_
      refine R_iload_n C dX6_window_14 rfl 1 rfl ?_
      refine ptX_X6_windowSize C wd_1_212 dX6_window_15 ?_
      refine R_letS (fun S1 => ?_)
      refine R_aload_n C dX6_window_18 rfl 0 rfl ?_
      refine R_callv (As := []) (st := []) C (kX6_keepWindow l D a cA S1) (by decide) (by decide) wd_2_45 kwX6_keepWindow 0 rfl rfl rfl rfl (Nat.le_of_ble_eq_true rfl) dX6_window_19 (fun r2 S3 => ?_)
      refine R_iconst (v := (1 : Int32)) C dX6_window_22 (by decide) ?_
      exact R_retz C dX6_window_23
    · refine R_sub [] rfl ?_
      exact uX6_window_11 C S
set_option maxHeartbeats 4000000 in
set_option maxRecDepth 100000 in
theorem kX6_window (l : Launch) (D : va_G) (a : Nat → Nat) (cA : ClassId) (S : St) (v1 : Int32) : CI l D (wX a cA) [(cA, .int)] yX6_window (.code yX6_window cX6_window 2 (some .boolean)) 4 [.ref (a 0), .int v1] (fX6_window v1 S) S := CI_of rfl (Nat.le_of_ble_eq_true rfl) (fun p e s m args below meth c A C => uX6_window C v1 S)
theorem dX6_leave_0 : decode cX6_leave 0 = .ok (.aload_n 0, 1) := by decide +kernel
theorem dX6_leave_1 : decode cX6_leave 1 = .ok (.getfield 23, 3) := by decide +kernel
theorem dX6_leave_4 : decode cX6_leave 4 = .ok (.iload_n 1, 1) := by decide +kernel
theorem dX6_leave_5 : decode cX6_leave 5 = .ok (.invokevirtual 101, 3) := by decide +kernel
theorem dX6_leave_8 : decode cX6_leave 8 = .ok (.ireturn, 1) := by decide +kernel
set_option maxHeartbeats 4000000 in
set_option maxRecDepth 100000 in
theorem uX6_leave (C : CX D [(cA, .int)] p s m args meth c A cX6_leave 2 RX6 (some .boolean)) (v1 : Int32) (S : St) : RU D (wX a cA) p l e 3 s m args below meth c A 2 (QI D (wX a cA) [(cA, .int)] A) (fX6_leave v1 S) 0 [] [(0, .ref (a 0)), (1, .int v1)] S := by
  unfold fX6_leave
  refine R_aload_n C dX6_leave_0 rfl 0 rfl ?_
  refine gtX_X6_net C wd_1_205 dX6_leave_1 ?_
  refine R_iload_n C dX6_leave_4 rfl 1 rfl ?_
  refine R_calli (As := [.int v1]) (st := []) C (kX4_takeOff l D a cA S v1) (by decide) (by decide) wd_2_49 kwX4_takeOff 1 rfl rfl rfl rfl (Nat.le_of_ble_eq_true rfl) dX6_leave_5 (fun r1 S2 => ?_)
  exact R_retz C dX6_leave_8
set_option maxHeartbeats 4000000 in
set_option maxRecDepth 100000 in
theorem kX6_leave (l : Launch) (D : va_G) (a : Nat → Nat) (cA : ClassId) (S : St) (v1 : Int32) : CI l D (wX a cA) [(cA, .int)] yX6_leave (.code yX6_leave cX6_leave 2 (some .boolean)) 3 [.ref (a 0), .int v1] (fX6_leave v1 S) S := CI_of rfl (Nat.le_of_ble_eq_true rfl) (fun p e s m args below meth c A C => uX6_leave C v1 S)
theorem dX4_hasOneLineAt_0 : decode cX4_hasOneLineAt 0 = .ok (.aload_n 0, 1) := by decide +kernel
theorem dX4_hasOneLineAt_1 : decode cX4_hasOneLineAt 1 = .ok (.getfield 30, 3) := by decide +kernel
theorem dX4_hasOneLineAt_4 : decode cX4_hasOneLineAt 4 = .ok (.iload_n 2, 1) := by decide +kernel
theorem dX4_hasOneLineAt_5 : decode cX4_hasOneLineAt 5 = .ok (.bipush 40, 2) := by decide +kernel
theorem dX4_hasOneLineAt_7 : decode cX4_hasOneLineAt 7 = .ok (.imul, 1) := by decide +kernel
theorem dX4_hasOneLineAt_8 : decode cX4_hasOneLineAt 8 = .ok (.iload_n 1, 1) := by decide +kernel
theorem dX4_hasOneLineAt_9 : decode cX4_hasOneLineAt 9 = .ok (.iadd, 1) := by decide +kernel
theorem dX4_hasOneLineAt_10 : decode cX4_hasOneLineAt 10 = .ok (.iaload, 1) := by decide +kernel
theorem dX4_hasOneLineAt_11 : decode cX4_hasOneLineAt 11 = .ok (.iconst 1, 1) := by decide +kernel
theorem dX4_hasOneLineAt_12 : decode cX4_hasOneLineAt 12 = .ok (.if_icmp .ne 7, 3) := by decide +kernel
theorem dX4_hasOneLineAt_15 : decode cX4_hasOneLineAt 15 = .ok (.iconst 1, 1) := by decide +kernel
theorem dX4_hasOneLineAt_16 : decode cX4_hasOneLineAt 16 = .ok (.goto 4, 3) := by decide +kernel
theorem dX4_hasOneLineAt_19 : decode cX4_hasOneLineAt 19 = .ok (.iconst 0, 1) := by decide +kernel
theorem dX4_hasOneLineAt_20 : decode cX4_hasOneLineAt 20 = .ok (.ireturn, 1) := by decide +kernel
set_option maxHeartbeats 4000000 in
set_option maxRecDepth 100000 in
theorem uX4_hasOneLineAt_20 (C : CX D [(cA, .int)] p s m args meth c A cX4_hasOneLineAt 3 RX4 (some .boolean)) (t0 : Int32) (S : St) : RU D (wX a cA) p l e 1 s m args below meth c A 3 (QI D (wX a cA) [(cA, .int)] A) (fX4_hasOneLineAt_20 t0 S) 20 [.int t0] [] S := by
  unfold fX4_hasOneLineAt_20
  exact R_retz C dX4_hasOneLineAt_20
set_option maxHeartbeats 4000000 in
set_option maxRecDepth 100000 in
theorem uX4_hasOneLineAt (C : CX D [(cA, .int)] p s m args meth c A cX4_hasOneLineAt 3 RX4 (some .boolean)) (v1 v2 : Int32) (S : St) : RU D (wX a cA) p l e 1 s m args below meth c A 3 (QI D (wX a cA) [(cA, .int)] A) (fX4_hasOneLineAt v1 v2 S) 0 [] [(0, .ref (a 1)), (1, .int v1), (2, .int v2)] S := by
  unfold fX4_hasOneLineAt
  refine R_aload_n C dX4_hasOneLineAt_0 rfl 0 rfl ?_
  refine gtX_X4_linesAt C wd_1_55 dX4_hasOneLineAt_1 ?_
  refine R_iload_n C dX4_hasOneLineAt_4 rfl 2 rfl ?_
  refine R_bipush (v := (40 : Int32)) C dX4_hasOneLineAt_5 (by decide) ?_
  refine R_imul C dX4_hasOneLineAt_7 ?_
  refine R_iload_n C dX4_hasOneLineAt_8 rfl 1 rfl ?_
  refine R_iadd C dX4_hasOneLineAt_9 ?_
  refine ldX7 C dX4_hasOneLineAt_10 ?_
  refine R_iconst (v := (1 : Int32)) C dX4_hasOneLineAt_11 (by decide) ?_
  refine R_icmp_ne (tgt := 19) C dX4_hasOneLineAt_12 (by decide) ?_ ?_
  · refine R_iconst (v := (1 : Int32)) C dX4_hasOneLineAt_15 (by decide) ?_
    refine R_goto (tgt := 20) C dX4_hasOneLineAt_16 (by decide) ?_
    refine R_sub [] rfl ?_
    exact uX4_hasOneLineAt_20 C (1 : Int32) S
  · refine R_iconst (v := (0 : Int32)) C dX4_hasOneLineAt_19 (by decide) ?_
    refine R_sub [] rfl ?_
    exact uX4_hasOneLineAt_20 C (0 : Int32) S
set_option maxHeartbeats 4000000 in
set_option maxRecDepth 100000 in
theorem kX4_hasOneLineAt (l : Launch) (D : va_G) (a : Nat → Nat) (cA : ClassId) (S : St) (v1 v2 : Int32) : CI l D (wX a cA) [(cA, .int)] yX4_hasOneLineAt (.code yX4_hasOneLineAt cX4_hasOneLineAt 3 (some .boolean)) 1 [.ref (a 1), .int v1, .int v2] (fX4_hasOneLineAt v1 v2 S) S := CI_of rfl (Nat.le_of_ble_eq_true rfl) (fun p e s m args below meth c A C => uX4_hasOneLineAt C v1 v2 S)
theorem dX3_keepIfBetter_0 : decode cX3_keepIfBetter 0 = .ok (.iload_n 3, 1) := by decide +kernel
theorem dX3_keepIfBetter_1 : decode cX3_keepIfBetter 1 = .ok (.aload_n 0, 1) := by decide +kernel
theorem dX3_keepIfBetter_2 : decode cX3_keepIfBetter 2 = .ok (.getfield 22, 3) := by decide +kernel
theorem dX3_keepIfBetter_5 : decode cX3_keepIfBetter 5 = .ok (.if_icmp .lt 20, 3) := by decide +kernel
theorem dX3_keepIfBetter_8 : decode cX3_keepIfBetter 8 = .ok (.iload_n 3, 1) := by decide +kernel
theorem dX3_keepIfBetter_9 : decode cX3_keepIfBetter 9 = .ok (.aload_n 0, 1) := by decide +kernel
theorem dX3_keepIfBetter_10 : decode cX3_keepIfBetter 10 = .ok (.getfield 22, 3) := by decide +kernel
theorem dX3_keepIfBetter_13 : decode cX3_keepIfBetter 13 = .ok (.if_icmp .ne 33, 3) := by decide +kernel
theorem dX3_keepIfBetter_16 : decode cX3_keepIfBetter 16 = .ok (.iload 4, 2) := by decide +kernel
theorem dX3_keepIfBetter_18 : decode cX3_keepIfBetter 18 = .ok (.aload_n 0, 1) := by decide +kernel
theorem dX3_keepIfBetter_19 : decode cX3_keepIfBetter 19 = .ok (.getfield 25, 3) := by decide +kernel
theorem dX3_keepIfBetter_22 : decode cX3_keepIfBetter 22 = .ok (.if_icmp .ge 24, 3) := by decide +kernel
theorem dX3_keepIfBetter_25 : decode cX3_keepIfBetter 25 = .ok (.aload_n 0, 1) := by decide +kernel
theorem dX3_keepIfBetter_26 : decode cX3_keepIfBetter 26 = .ok (.iload_n 1, 1) := by decide +kernel
theorem dX3_keepIfBetter_27 : decode cX3_keepIfBetter 27 = .ok (.putfield 15, 3) := by decide +kernel
theorem dX3_keepIfBetter_30 : decode cX3_keepIfBetter 30 = .ok (.aload_n 0, 1) := by decide +kernel
theorem dX3_keepIfBetter_31 : decode cX3_keepIfBetter 31 = .ok (.iload_n 2, 1) := by decide +kernel
theorem dX3_keepIfBetter_32 : decode cX3_keepIfBetter 32 = .ok (.putfield 19, 3) := by decide +kernel
theorem dX3_keepIfBetter_35 : decode cX3_keepIfBetter 35 = .ok (.aload_n 0, 1) := by decide +kernel
theorem dX3_keepIfBetter_36 : decode cX3_keepIfBetter 36 = .ok (.iload_n 3, 1) := by decide +kernel
theorem dX3_keepIfBetter_37 : decode cX3_keepIfBetter 37 = .ok (.putfield 22, 3) := by decide +kernel
theorem dX3_keepIfBetter_40 : decode cX3_keepIfBetter 40 = .ok (.aload_n 0, 1) := by decide +kernel
theorem dX3_keepIfBetter_41 : decode cX3_keepIfBetter 41 = .ok (.iload 4, 2) := by decide +kernel
theorem dX3_keepIfBetter_43 : decode cX3_keepIfBetter 43 = .ok (.putfield 25, 3) := by decide +kernel
theorem dX3_keepIfBetter_46 : decode cX3_keepIfBetter 46 = .ok (.return_, 1) := by decide +kernel
set_option maxHeartbeats 4000000 in
set_option maxRecDepth 100000 in
theorem uX3_keepIfBetter_46 (C : CX D [(cA, .int)] p s m args meth c A cX3_keepIfBetter 5 RX3 none) (S : St) : RU D (wX a cA) p l e 1 s m args below meth c A 5 (QV D (wX a cA) [(cA, .int)] A) (fX3_keepIfBetter_46 S) 46 [] [] S := by
  unfold fX3_keepIfBetter_46
  exact R_retv C dX3_keepIfBetter_46
set_option maxHeartbeats 4000000 in
set_option maxRecDepth 100000 in
theorem uX3_keepIfBetter_25 (C : CX D [(cA, .int)] p s m args meth c A cX3_keepIfBetter 5 RX3 none) (v1 v2 v3 v4 : Int32) (S : St) : RU D (wX a cA) p l e 1 s m args below meth c A 5 (QV D (wX a cA) [(cA, .int)] A) (fX3_keepIfBetter_25 v1 v2 v3 v4 S) 25 [] [(0, .ref (a 3)), (1, .int v1), (2, .int v2), (3, .int v3), (4, .int v4)] S := by
  unfold fX3_keepIfBetter_25
  refine R_aload_n C dX3_keepIfBetter_25 rfl 0 rfl ?_
  refine R_iload_n C dX3_keepIfBetter_26 rfl 1 rfl ?_
  refine ptX_X3_chosenLine C wd_1_126 dX3_keepIfBetter_27 ?_
  refine R_letS (fun S1 => ?_)
  refine R_aload_n C dX3_keepIfBetter_30 rfl 0 rfl ?_
  refine R_iload_n C dX3_keepIfBetter_31 rfl 2 rfl ?_
  refine ptX_X3_chosenHost C wd_1_128 dX3_keepIfBetter_32 ?_
  refine R_letS (fun S2 => ?_)
  refine R_aload_n C dX3_keepIfBetter_35 rfl 0 rfl ?_
  refine R_iload_n C dX3_keepIfBetter_36 rfl 3 rfl ?_
  refine ptX_X3_copiesChange C wd_1_130 dX3_keepIfBetter_37 ?_
  refine R_letS (fun S3 => ?_)
  refine R_aload_n C dX3_keepIfBetter_40 rfl 0 rfl ?_
  refine R_iload C dX3_keepIfBetter_41 4 rfl ?_
  refine ptX_X3_squaresChange C wd_1_131 dX3_keepIfBetter_43 ?_
  refine R_letS (fun S4 => ?_)
  refine R_sub [] rfl ?_
  exact uX3_keepIfBetter_46 C S4
set_option maxHeartbeats 4000000 in
set_option maxRecDepth 100000 in
theorem uX3_keepIfBetter (C : CX D [(cA, .int)] p s m args meth c A cX3_keepIfBetter 5 RX3 none) (v1 v2 v3 v4 : Int32) (S : St) : RU D (wX a cA) p l e 1 s m args below meth c A 5 (QV D (wX a cA) [(cA, .int)] A) (fX3_keepIfBetter v1 v2 v3 v4 S) 0 [] [(0, .ref (a 3)), (1, .int v1), (2, .int v2), (3, .int v3), (4, .int v4)] S := by
  unfold fX3_keepIfBetter
  refine R_iload_n C dX3_keepIfBetter_0 rfl 3 rfl ?_
  refine R_aload_n C dX3_keepIfBetter_1 rfl 0 rfl ?_
  refine gtX_X3_copiesChange C wd_1_130 dX3_keepIfBetter_2 ?_
  refine R_icmp_lt (tgt := 25) C dX3_keepIfBetter_5 (by decide) ?_ ?_
  · exact uX3_keepIfBetter_25 C v1 v2 v3 v4 S
  · refine R_iload_n C dX3_keepIfBetter_8 rfl 3 rfl ?_
    refine R_aload_n C dX3_keepIfBetter_9 rfl 0 rfl ?_
    refine gtX_X3_copiesChange C wd_1_130 dX3_keepIfBetter_10 ?_
    refine R_icmp_ne (tgt := 46) C dX3_keepIfBetter_13 (by decide) ?_ ?_
    · refine R_iload C dX3_keepIfBetter_16 4 rfl ?_
      refine R_aload_n C dX3_keepIfBetter_18 rfl 0 rfl ?_
      refine gtX_X3_squaresChange C wd_1_131 dX3_keepIfBetter_19 ?_
      refine R_icmp_ge (tgt := 46) C dX3_keepIfBetter_22 (by decide) ?_ ?_
      · refine R_sub [] rfl ?_
        exact uX3_keepIfBetter_46 C S
      · exact uX3_keepIfBetter_25 C v1 v2 v3 v4 S
    · refine R_sub [] rfl ?_
      exact uX3_keepIfBetter_46 C S
set_option maxHeartbeats 4000000 in
set_option maxRecDepth 100000 in
theorem kX3_keepIfBetter (l : Launch) (D : va_G) (a : Nat → Nat) (cA : ClassId) (S : St) (v1 v2 v3 v4 : Int32) : CV l D (wX a cA) [(cA, .int)] yX3_keepIfBetter (.code yX3_keepIfBetter cX3_keepIfBetter 5 none) 1 [.ref (a 3), .int v1, .int v2, .int v3, .int v4] (fX3_keepIfBetter v1 v2 v3 v4 S) S := CV_of rfl (Nat.le_of_ble_eq_true rfl) (fun p e s m args below meth c A C => uX3_keepIfBetter C v1 v2 v3 v4 S)
theorem dX3_weighMovesOf_0 : decode cX3_weighMovesOf 0 = .ok (.aload_n 0, 1) := by decide +kernel
theorem dX3_weighMovesOf_1 : decode cX3_weighMovesOf 1 = .ok (.getfield 9, 3) := by decide +kernel
theorem dX3_weighMovesOf_4 : decode cX3_weighMovesOf 4 = .ok (.getfield 41, 3) := by decide +kernel
theorem dX3_weighMovesOf_7 : decode cX3_weighMovesOf 7 = .ok (.iload_n 1, 1) := by decide +kernel
theorem dX3_weighMovesOf_8 : decode cX3_weighMovesOf 8 = .ok (.iaload, 1) := by decide +kernel
theorem dX3_weighMovesOf_9 : decode cX3_weighMovesOf 9 = .ok (.istore_n 3, 1) := by decide +kernel
theorem dX3_weighMovesOf_10 : decode cX3_weighMovesOf 10 = .ok (.aload_n 0, 1) := by decide +kernel
theorem dX3_weighMovesOf_11 : decode cX3_weighMovesOf 11 = .ok (.getfield 9, 3) := by decide +kernel
theorem dX3_weighMovesOf_14 : decode cX3_weighMovesOf 14 = .ok (.getfield 45, 3) := by decide +kernel
theorem dX3_weighMovesOf_17 : decode cX3_weighMovesOf 17 = .ok (.iload_n 1, 1) := by decide +kernel
theorem dX3_weighMovesOf_18 : decode cX3_weighMovesOf 18 = .ok (.iaload, 1) := by decide +kernel
theorem dX3_weighMovesOf_19 : decode cX3_weighMovesOf 19 = .ok (.istore 4, 2) := by decide +kernel
theorem dX3_weighMovesOf_21 : decode cX3_weighMovesOf 21 = .ok (.aload_n 0, 1) := by decide +kernel
theorem dX3_weighMovesOf_22 : decode cX3_weighMovesOf 22 = .ok (.getfield 9, 3) := by decide +kernel
theorem dX3_weighMovesOf_25 : decode cX3_weighMovesOf 25 = .ok (.getfield 48, 3) := by decide +kernel
theorem dX3_weighMovesOf_28 : decode cX3_weighMovesOf 28 = .ok (.iload_n 1, 1) := by decide +kernel
theorem dX3_weighMovesOf_29 : decode cX3_weighMovesOf 29 = .ok (.iaload, 1) := by decide +kernel
theorem dX3_weighMovesOf_30 : decode cX3_weighMovesOf 30 = .ok (.istore 5, 2) := by decide +kernel
theorem dX3_weighMovesOf_32 : decode cX3_weighMovesOf 32 = .ok (.aload_n 0, 1) := by decide +kernel
theorem dX3_weighMovesOf_33 : decode cX3_weighMovesOf 33 = .ok (.getfield 9, 3) := by decide +kernel
theorem dX3_weighMovesOf_36 : decode cX3_weighMovesOf 36 = .ok (.iload 4, 2) := by decide +kernel
theorem dX3_weighMovesOf_38 : decode cX3_weighMovesOf 38 = .ok (.iload_n 3, 1) := by decide +kernel
theorem dX3_weighMovesOf_39 : decode cX3_weighMovesOf 39 = .ok (.invokevirtual 51, 3) := by decide +kernel
theorem dX3_weighMovesOf_42 : decode cX3_weighMovesOf 42 = .ok (.ifCond .eq 7, 3) := by decide +kernel
theorem dX3_weighMovesOf_45 : decode cX3_weighMovesOf 45 = .ok (.iconst 1, 1) := by decide +kernel
theorem dX3_weighMovesOf_46 : decode cX3_weighMovesOf 46 = .ok (.goto 4, 3) := by decide +kernel
theorem dX3_weighMovesOf_49 : decode cX3_weighMovesOf 49 = .ok (.iconst 0, 1) := by decide +kernel
theorem dX3_weighMovesOf_50 : decode cX3_weighMovesOf 50 = .ok (.aload_n 0, 1) := by decide +kernel
theorem dX3_weighMovesOf_51 : decode cX3_weighMovesOf 51 = .ok (.getfield 9, 3) := by decide +kernel
theorem dX3_weighMovesOf_54 : decode cX3_weighMovesOf 54 = .ok (.iload 5, 2) := by decide +kernel
theorem dX3_weighMovesOf_56 : decode cX3_weighMovesOf 56 = .ok (.iload_n 3, 1) := by decide +kernel
theorem dX3_weighMovesOf_57 : decode cX3_weighMovesOf 57 = .ok (.invokevirtual 51, 3) := by decide +kernel
theorem dX3_weighMovesOf_60 : decode cX3_weighMovesOf 60 = .ok (.ifCond .eq 7, 3) := by decide +kernel
theorem dX3_weighMovesOf_63 : decode cX3_weighMovesOf 63 = .ok (.iconst 1, 1) := by decide +kernel
theorem dX3_weighMovesOf_64 : decode cX3_weighMovesOf 64 = .ok (.goto 4, 3) := by decide +kernel
theorem dX3_weighMovesOf_67 : decode cX3_weighMovesOf 67 = .ok (.iconst 0, 1) := by decide +kernel
theorem dX3_weighMovesOf_68 : decode cX3_weighMovesOf 68 = .ok (.iadd, 1) := by decide +kernel
theorem dX3_weighMovesOf_69 : decode cX3_weighMovesOf 69 = .ok (.istore 6, 2) := by decide +kernel
theorem dX3_weighMovesOf_71 : decode cX3_weighMovesOf 71 = .ok (.iload 6, 2) := by decide +kernel
theorem dX3_weighMovesOf_73 : decode cX3_weighMovesOf 73 = .ok (.ineg, 1) := by decide +kernel
theorem dX3_weighMovesOf_74 : decode cX3_weighMovesOf 74 = .ok (.aload_n 0, 1) := by decide +kernel
theorem dX3_weighMovesOf_75 : decode cX3_weighMovesOf 75 = .ok (.getfield 22, 3) := by decide +kernel
theorem dX3_weighMovesOf_78 : decode cX3_weighMovesOf 78 = .ok (.if_icmp .le 4, 3) := by decide +kernel
theorem dX3_weighMovesOf_81 : decode cX3_weighMovesOf 81 = .ok (.return_, 1) := by decide +kernel
theorem dX3_weighMovesOf_82 : decode cX3_weighMovesOf 82 = .ok (.iconst 0, 1) := by decide +kernel
theorem dX3_weighMovesOf_83 : decode cX3_weighMovesOf 83 = .ok (.istore 7, 2) := by decide +kernel
theorem dX3_weighMovesOf_85 : decode cX3_weighMovesOf 85 = .ok (.iload 7, 2) := by decide +kernel
theorem dX3_weighMovesOf_87 : decode cX3_weighMovesOf 87 = .ok (.aload_n 0, 1) := by decide +kernel
theorem dX3_weighMovesOf_88 : decode cX3_weighMovesOf 88 = .ok (.getfield 9, 3) := by decide +kernel
theorem dX3_weighMovesOf_91 : decode cX3_weighMovesOf 91 = .ok (.getfield 55, 3) := by decide +kernel
theorem dX3_weighMovesOf_94 : decode cX3_weighMovesOf 94 = .ok (.if_icmp .ge 113, 3) := by decide +kernel
theorem dX3_weighMovesOf_97 : decode cX3_weighMovesOf 97 = .ok (.iload 7, 2) := by decide +kernel
theorem dX3_weighMovesOf_99 : decode cX3_weighMovesOf 99 = .ok (.iload_n 3, 1) := by decide +kernel
theorem dX3_weighMovesOf_100 : decode cX3_weighMovesOf 100 = .ok (.if_icmp .eq 101, 3) := by decide +kernel
theorem dX3_weighMovesOf_103 : decode cX3_weighMovesOf 103 = .ok (.aload_n 0, 1) := by decide +kernel
theorem dX3_weighMovesOf_104 : decode cX3_weighMovesOf 104 = .ok (.getfield 9, 3) := by decide +kernel
theorem dX3_weighMovesOf_107 : decode cX3_weighMovesOf 107 = .ok (.getfield 58, 3) := by decide +kernel
theorem dX3_weighMovesOf_110 : decode cX3_weighMovesOf 110 = .ok (.iload 7, 2) := by decide +kernel
theorem dX3_weighMovesOf_112 : decode cX3_weighMovesOf 112 = .ok (.iaload, 1) := by decide +kernel
theorem dX3_weighMovesOf_113 : decode cX3_weighMovesOf 113 = .ok (.iload_n 2, 1) := by decide +kernel
theorem dX3_weighMovesOf_114 : decode cX3_weighMovesOf 114 = .ok (.if_icmp .lt 6, 3) := by decide +kernel
theorem dX3_weighMovesOf_117 : decode cX3_weighMovesOf 117 = .ok (.goto 84, 3) := by decide +kernel
theorem dX3_weighMovesOf_120 : decode cX3_weighMovesOf 120 = .ok (.aload_n 0, 1) := by decide +kernel
theorem dX3_weighMovesOf_121 : decode cX3_weighMovesOf 121 = .ok (.getfield 9, 3) := by decide +kernel
theorem dX3_weighMovesOf_124 : decode cX3_weighMovesOf 124 = .ok (.iload 4, 2) := by decide +kernel
theorem dX3_weighMovesOf_126 : decode cX3_weighMovesOf 126 = .ok (.iload 7, 2) := by decide +kernel
theorem dX3_weighMovesOf_128 : decode cX3_weighMovesOf 128 = .ok (.invokevirtual 61, 3) := by decide +kernel
theorem dX3_weighMovesOf_131 : decode cX3_weighMovesOf 131 = .ok (.ifCond .eq 7, 3) := by decide +kernel
theorem dX3_weighMovesOf_134 : decode cX3_weighMovesOf 134 = .ok (.iconst 0, 1) := by decide +kernel
theorem dX3_weighMovesOf_135 : decode cX3_weighMovesOf 135 = .ok (.goto 4, 3) := by decide +kernel
theorem dX3_weighMovesOf_138 : decode cX3_weighMovesOf 138 = .ok (.iconst 1, 1) := by decide +kernel
theorem dX3_weighMovesOf_139 : decode cX3_weighMovesOf 139 = .ok (.aload_n 0, 1) := by decide +kernel
theorem dX3_weighMovesOf_140 : decode cX3_weighMovesOf 140 = .ok (.getfield 9, 3) := by decide +kernel
theorem dX3_weighMovesOf_143 : decode cX3_weighMovesOf 143 = .ok (.iload 5, 2) := by decide +kernel
theorem dX3_weighMovesOf_145 : decode cX3_weighMovesOf 145 = .ok (.iload 7, 2) := by decide +kernel
theorem dX3_weighMovesOf_147 : decode cX3_weighMovesOf 147 = .ok (.invokevirtual 61, 3) := by decide +kernel
theorem dX3_weighMovesOf_150 : decode cX3_weighMovesOf 150 = .ok (.ifCond .eq 7, 3) := by decide +kernel
theorem dX3_weighMovesOf_153 : decode cX3_weighMovesOf 153 = .ok (.iconst 0, 1) := by decide +kernel
theorem dX3_weighMovesOf_154 : decode cX3_weighMovesOf 154 = .ok (.goto 4, 3) := by decide +kernel
theorem dX3_weighMovesOf_157 : decode cX3_weighMovesOf 157 = .ok (.iconst 1, 1) := by decide +kernel
theorem dX3_weighMovesOf_158 : decode cX3_weighMovesOf 158 = .ok (.iadd, 1) := by decide +kernel
theorem dX3_weighMovesOf_159 : decode cX3_weighMovesOf 159 = .ok (.istore 8, 2) := by decide +kernel
theorem dX3_weighMovesOf_161 : decode cX3_weighMovesOf 161 = .ok (.iconst 2, 1) := by decide +kernel
theorem dX3_weighMovesOf_162 : decode cX3_weighMovesOf 162 = .ok (.aload_n 0, 1) := by decide +kernel
theorem dX3_weighMovesOf_163 : decode cX3_weighMovesOf 163 = .ok (.getfield 9, 3) := by decide +kernel
theorem dX3_weighMovesOf_166 : decode cX3_weighMovesOf 166 = .ok (.getfield 58, 3) := by decide +kernel
theorem dX3_weighMovesOf_169 : decode cX3_weighMovesOf 169 = .ok (.iload 7, 2) := by decide +kernel
theorem dX3_weighMovesOf_171 : decode cX3_weighMovesOf 171 = .ok (.iaload, 1) := by decide +kernel
theorem dX3_weighMovesOf_172 : decode cX3_weighMovesOf 172 = .ok (.aload_n 0, 1) := by decide +kernel
theorem dX3_weighMovesOf_173 : decode cX3_weighMovesOf 173 = .ok (.getfield 9, 3) := by decide +kernel
theorem dX3_weighMovesOf_176 : decode cX3_weighMovesOf 176 = .ok (.getfield 58, 3) := by decide +kernel
theorem dX3_weighMovesOf_179 : decode cX3_weighMovesOf 179 = .ok (.iload_n 3, 1) := by decide +kernel
theorem dX3_weighMovesOf_180 : decode cX3_weighMovesOf 180 = .ok (.iaload, 1) := by decide +kernel
theorem dX3_weighMovesOf_181 : decode cX3_weighMovesOf 181 = .ok (.isub, 1) := by decide +kernel
theorem dX3_weighMovesOf_182 : decode cX3_weighMovesOf 182 = .ok (.iconst 1, 1) := by decide +kernel
theorem dX3_weighMovesOf_183 : decode cX3_weighMovesOf 183 = .ok (.iadd, 1) := by decide +kernel
theorem dX3_weighMovesOf_184 : decode cX3_weighMovesOf 184 = .ok (.imul, 1) := by decide +kernel
theorem dX3_weighMovesOf_185 : decode cX3_weighMovesOf 185 = .ok (.istore 9, 2) := by decide +kernel
theorem dX3_weighMovesOf_187 : decode cX3_weighMovesOf 187 = .ok (.aload_n 0, 1) := by decide +kernel
theorem dX3_weighMovesOf_188 : decode cX3_weighMovesOf 188 = .ok (.iload_n 1, 1) := by decide +kernel
theorem dX3_weighMovesOf_189 : decode cX3_weighMovesOf 189 = .ok (.iload 7, 2) := by decide +kernel
theorem dX3_weighMovesOf_191 : decode cX3_weighMovesOf 191 = .ok (.iload 8, 2) := by decide +kernel
theorem dX3_weighMovesOf_193 : decode cX3_weighMovesOf 193 = .ok (.iload 6, 2) := by decide +kernel
theorem dX3_weighMovesOf_195 : decode cX3_weighMovesOf 195 = .ok (.isub, 1) := by decide +kernel
theorem dX3_weighMovesOf_196 : decode cX3_weighMovesOf 196 = .ok (.iload 9, 2) := by decide +kernel
theorem dX3_weighMovesOf_198 : decode cX3_weighMovesOf 198 = .ok (.invokevirtual 64, 3) := by decide +kernel
theorem dX3_weighMovesOf_201 : decode cX3_weighMovesOf 201 = .ok (.iinc 7 1, 3) := by decide +kernel
theorem dX3_weighMovesOf_204 : decode cX3_weighMovesOf 204 = .ok (.goto (-119), 3) := by decide +kernel
theorem dX3_weighMovesOf_207 : decode cX3_weighMovesOf 207 = .ok (.return_, 1) := by decide +kernel
set_option maxHeartbeats 4000000 in
set_option maxRecDepth 100000 in
theorem uX3_weighMovesOf_201 (C : CX D [(cA, .int)] p s m args meth c A cX3_weighMovesOf 10 RX3 none) (k85 : Int32 → Int32 → Int32 → Int32 → Int32 → Int32 → Int32 → St → Rs) (h85 : ∀ (v1 v2 v3 v4 v5 v6 v7 : Int32) (S : St), RU D (wX a cA) p l e 2 s m args below meth c A 10 (QV D (wX a cA) [(cA, .int)] A) (k85 v1 v2 v3 v4 v5 v6 v7 S) 85 [] [(0, .ref (a 3)), (1, .int v1), (2, .int v2), (3, .int v3), (4, .int v4), (5, .int v5), (6, .int v6), (7, .int v7)] S) (v1 v2 v3 v4 v5 v6 v7 : Int32) (S : St) : RU D (wX a cA) p l e 2 s m args below meth c A 10 (QV D (wX a cA) [(cA, .int)] A) (fX3_weighMovesOf_201 k85 v1 v2 v3 v4 v5 v6 v7 S) 201 [] [(0, .ref (a 3)), (1, .int v1), (2, .int v2), (3, .int v3), (4, .int v4), (5, .int v5), (6, .int v6), (7, .int v7)] S := by
  unfold fX3_weighMovesOf_201
  refine R_iinc (v := v7 + 1) (lv' := [(7, .int (v7 + 1)), (0, .ref (a 3)), (1, .int v1), (2, .int v2), (3, .int v3), (4, .int v4), (5, .int v5), (6, .int v6)]) C dX3_weighMovesOf_201 7 rfl rfl (by decide) rfl ?_
  refine R_goto (tgt := 85) C dX3_weighMovesOf_204 (by decide) ?_
  refine R_sub [1, 2, 3, 4, 5, 6, 7, 0] rfl ?_
  exact h85 v1 v2 v3 v4 v5 v6 (v7 + 1) S
set_option maxHeartbeats 4000000 in
set_option maxRecDepth 100000 in
theorem uX3_weighMovesOf_158 (C : CX D [(cA, .int)] p s m args meth c A cX3_weighMovesOf 10 RX3 none) (k85 : Int32 → Int32 → Int32 → Int32 → Int32 → Int32 → Int32 → St → Rs) (h85 : ∀ (v1 v2 v3 v4 v5 v6 v7 : Int32) (S : St), RU D (wX a cA) p l e 2 s m args below meth c A 10 (QV D (wX a cA) [(cA, .int)] A) (k85 v1 v2 v3 v4 v5 v6 v7 S) 85 [] [(0, .ref (a 3)), (1, .int v1), (2, .int v2), (3, .int v3), (4, .int v4), (5, .int v5), (6, .int v6), (7, .int v7)] S) (v1 v2 v3 v4 v5 v6 v7 t0 t1 : Int32) (S : St) : RU D (wX a cA) p l e 2 s m args below meth c A 10 (QV D (wX a cA) [(cA, .int)] A) (fX3_weighMovesOf_158 k85 v1 v2 v3 v4 v5 v6 v7 t0 t1 S) 158 [.int t0, .int t1] [(0, .ref (a 3)), (1, .int v1), (2, .int v2), (3, .int v3), (4, .int v4), (5, .int v5), (6, .int v6), (7, .int v7)] S := by
  unfold fX3_weighMovesOf_158
  refine R_iadd C dX3_weighMovesOf_158 ?_
  refine R_let (fun x1 => ?_)
  refine R_istore (lv' := [(8, .int x1), (0, .ref (a 3)), (1, .int v1), (2, .int v2), (3, .int v3), (4, .int v4), (5, .int v5), (6, .int v6), (7, .int v7)]) C dX3_weighMovesOf_159 (by decide) rfl ?_
  refine R_iconst (v := (2 : Int32)) C dX3_weighMovesOf_161 (by decide) ?_
  refine R_aload_n C dX3_weighMovesOf_162 rfl 1 rfl ?_
  refine gtX_X3_net C wd_1_125 dX3_weighMovesOf_163 ?_
  refine gtX_X4_loads C wd_1_46 dX3_weighMovesOf_166 ?_
  refine R_iload C dX3_weighMovesOf_169 8 rfl ?_
  refine ldX4 C dX3_weighMovesOf_171 ?_
  refine R_aload_n C dX3_weighMovesOf_172 rfl 1 rfl ?_
  refine gtX_X3_net C wd_1_125 dX3_weighMovesOf_173 ?_
  refine gtX_X4_loads C wd_1_46 dX3_weighMovesOf_176 ?_
  refine R_iload_n C dX3_weighMovesOf_179 rfl 4 rfl ?_
  refine ldX4 C dX3_weighMovesOf_180 ?_
  refine R_isub C dX3_weighMovesOf_181 ?_
  refine R_iconst (v := (1 : Int32)) C dX3_weighMovesOf_182 (by decide) ?_
  refine R_iadd C dX3_weighMovesOf_183 ?_
  refine R_imul C dX3_weighMovesOf_184 ?_
  refine R_let (fun x2 => ?_)
  refine R_istore (lv' := [(9, .int x2), (8, .int x1), (0, .ref (a 3)), (1, .int v1), (2, .int v2), (3, .int v3), (4, .int v4), (5, .int v5), (6, .int v6), (7, .int v7)]) C dX3_weighMovesOf_185 (by decide) rfl ?_
  refine R_aload_n C dX3_weighMovesOf_187 rfl 2 rfl ?_
  refine R_iload_n C dX3_weighMovesOf_188 rfl 3 rfl ?_
  refine R_iload C dX3_weighMovesOf_189 9 rfl ?_
  refine R_iload C dX3_weighMovesOf_191 1 rfl ?_
  refine R_iload C dX3_weighMovesOf_193 8 rfl ?_
  refine R_isub C dX3_weighMovesOf_195 ?_
  refine R_iload C dX3_weighMovesOf_196 0 rfl ?_
  refine R_callv (As := [.int v1, .int v7, .int (x1 - v6), .int x2]) (st := []) C (kX3_keepIfBetter l D a cA S v1 v7 (x1 - v6) x2) (by decide) (by decide) wd_2_103 kwX3_keepIfBetter 3 rfl rfl rfl rfl (Nat.le_of_ble_eq_true rfl) dX3_weighMovesOf_198 (fun r3 S4 => ?_)
  refine R_sub [2, 3, 4, 5, 6, 7, 8, 9] rfl ?_
  exact uX3_weighMovesOf_201 C k85 h85 v1 v2 v3 v4 v5 v6 v7 S4
set_option maxHeartbeats 4000000 in
set_option maxRecDepth 100000 in
theorem uX3_weighMovesOf_139 (C : CX D [(cA, .int)] p s m args meth c A cX3_weighMovesOf 10 RX3 none) (k85 : Int32 → Int32 → Int32 → Int32 → Int32 → Int32 → Int32 → St → Rs) (h85 : ∀ (v1 v2 v3 v4 v5 v6 v7 : Int32) (S : St), RU D (wX a cA) p l e 2 s m args below meth c A 10 (QV D (wX a cA) [(cA, .int)] A) (k85 v1 v2 v3 v4 v5 v6 v7 S) 85 [] [(0, .ref (a 3)), (1, .int v1), (2, .int v2), (3, .int v3), (4, .int v4), (5, .int v5), (6, .int v6), (7, .int v7)] S) (v1 v2 v3 v4 v5 v6 v7 t0 : Int32) (S : St) : RU D (wX a cA) p l e 2 s m args below meth c A 10 (QV D (wX a cA) [(cA, .int)] A) (fX3_weighMovesOf_139 k85 v1 v2 v3 v4 v5 v6 v7 t0 S) 139 [.int t0] [(0, .ref (a 3)), (1, .int v1), (2, .int v2), (3, .int v3), (4, .int v4), (5, .int v5), (6, .int v6), (7, .int v7)] S := by
  unfold fX3_weighMovesOf_139
  refine R_aload_n C dX3_weighMovesOf_139 rfl 0 rfl ?_
  refine gtX_X3_net C wd_1_125 dX3_weighMovesOf_140 ?_
  refine R_iload C dX3_weighMovesOf_143 5 rfl ?_
  refine R_iload C dX3_weighMovesOf_145 7 rfl ?_
  refine R_calli (As := [.int v5, .int v7]) (st := [.int t0]) C (kX4_hasCopy l D a cA S v5 v7) (by decide) (by decide) wd_2_102 kwX4_hasCopy 1 rfl rfl rfl rfl (Nat.le_of_ble_eq_true rfl) dX3_weighMovesOf_147 (fun r1 S2 => ?_)
  refine R_if_eq (tgt := 157) C dX3_weighMovesOf_150 (by decide) ?_ ?_
  · refine R_iconst (v := (1 : Int32)) C dX3_weighMovesOf_157 (by decide) ?_
    exact uX3_weighMovesOf_158 C k85 h85 v1 v2 v3 v4 v5 v6 v7 (1 : Int32) t0 S2
  · refine R_iconst (v := (0 : Int32)) C dX3_weighMovesOf_153 (by decide) ?_
    refine R_goto (tgt := 158) C dX3_weighMovesOf_154 (by decide) ?_
    exact uX3_weighMovesOf_158 C k85 h85 v1 v2 v3 v4 v5 v6 v7 (0 : Int32) t0 S2
set_option maxHeartbeats 4000000 in
set_option maxRecDepth 100000 in
theorem uX3_weighMovesOf_85_b (C : CX D [(cA, .int)] p s m args meth c A cX3_weighMovesOf 10 RX3 none) (k85 : Int32 → Int32 → Int32 → Int32 → Int32 → Int32 → Int32 → St → Rs) (h85 : ∀ (v1 v2 v3 v4 v5 v6 v7 : Int32) (S : St), RU D (wX a cA) p l e 2 s m args below meth c A 10 (QV D (wX a cA) [(cA, .int)] A) (k85 v1 v2 v3 v4 v5 v6 v7 S) 85 [] [(0, .ref (a 3)), (1, .int v1), (2, .int v2), (3, .int v3), (4, .int v4), (5, .int v5), (6, .int v6), (7, .int v7)] S) (v1 v2 v3 v4 v5 v6 v7 : Int32) (S : St) : RU D (wX a cA) p l e 2 s m args below meth c A 10 (QV D (wX a cA) [(cA, .int)] A) (fX3_weighMovesOf_85_b k85 v1 v2 v3 v4 v5 v6 v7 S) 85 [] [(0, .ref (a 3)), (1, .int v1), (2, .int v2), (3, .int v3), (4, .int v4), (5, .int v5), (6, .int v6), (7, .int v7)] S := by
  unfold fX3_weighMovesOf_85_b
  refine R_iload C dX3_weighMovesOf_85 7 rfl ?_
  refine R_aload_n C dX3_weighMovesOf_87 rfl 0 rfl ?_
  refine gtX_X3_net C wd_1_125 dX3_weighMovesOf_88 ?_
  refine gtX_X4_hosts C wd_1_59 dX3_weighMovesOf_91 ?_
  refine R_icmp_ge (tgt := 207) C dX3_weighMovesOf_94 (by decide) ?_ ?_
  · exact R_retv C dX3_weighMovesOf_207
  · refine R_iload C dX3_weighMovesOf_97 7 rfl ?_
    refine R_iload_n C dX3_weighMovesOf_99 rfl 3 rfl ?_
    refine R_icmp_eq (tgt := 201) C dX3_weighMovesOf_100 (by decide) ?_ ?_
    · exact uX3_weighMovesOf_201 C k85 h85 v1 v2 v3 v4 v5 v6 v7 S
    · refine R_aload_n C dX3_weighMovesOf_103 rfl 0 rfl ?_
      refine gtX_X3_net C wd_1_125 dX3_weighMovesOf_104 ?_
      refine gtX_X4_loads C wd_1_46 dX3_weighMovesOf_107 ?_
      refine R_iload C dX3_weighMovesOf_110 7 rfl ?_
      refine ldX4 C dX3_weighMovesOf_112 ?_
      refine R_iload_n C dX3_weighMovesOf_113 rfl 2 rfl ?_
      refine R_icmp_lt (tgt := 120) C dX3_weighMovesOf_114 (by decide) ?_ ?_
      · refine R_aload_n C dX3_weighMovesOf_120 rfl 0 rfl ?_
        refine gtX_X3_net C wd_1_125 dX3_weighMovesOf_121 ?_
        refine R_iload C dX3_weighMovesOf_124 4 rfl ?_
        refine R_iload C dX3_weighMovesOf_126 7 rfl ?_
        refine R_calli (As := [.int v4, .int v7]) (st := []) C (kX4_hasCopy l D a cA S v4 v7) (by decide) (by decide) wd_2_102 kwX4_hasCopy 1 rfl rfl rfl rfl (Nat.le_of_ble_eq_true rfl) dX3_weighMovesOf_128 (fun r1 S2 => ?_)
        refine R_if_eq (tgt := 138) C dX3_weighMovesOf_131 (by decide) ?_ ?_
        · refine R_iconst (v := (1 : Int32)) C dX3_weighMovesOf_138 (by decide) ?_
          exact uX3_weighMovesOf_139 C k85 h85 v1 v2 v3 v4 v5 v6 v7 (1 : Int32) S2
        · refine R_iconst (v := (0 : Int32)) C dX3_weighMovesOf_134 (by decide) ?_
          refine R_goto (tgt := 139) C dX3_weighMovesOf_135 (by decide) ?_
          exact uX3_weighMovesOf_139 C k85 h85 v1 v2 v3 v4 v5 v6 v7 (0 : Int32) S2
      · refine R_goto (tgt := 201) C dX3_weighMovesOf_117 (by decide) ?_
        exact uX3_weighMovesOf_201 C k85 h85 v1 v2 v3 v4 v5 v6 v7 S
set_option maxHeartbeats 4000000 in
set_option maxRecDepth 100000 in
theorem uX3_weighMovesOf_85 (C : CX D [(cA, .int)] p s m args meth c A cX3_weighMovesOf 10 RX3 none) : ∀ (n : Nat) (v1 v2 v3 v4 v5 v6 v7 : Int32) (S : St), RU D (wX a cA) p l e 2 s m args below meth c A 10 (QV D (wX a cA) [(cA, .int)] A) (fX3_weighMovesOf_85 n v1 v2 v3 v4 v5 v6 v7 S) 85 [] [(0, .ref (a 3)), (1, .int v1), (2, .int v2), (3, .int v3), (4, .int v4), (5, .int v5), (6, .int v6), (7, .int v7)] S := by
  intro n
  induction n with
  | zero => intro v1 v2 v3 v4 v5 v6 v7 S; exact R_none
  | succ n ih => intro v1 v2 v3 v4 v5 v6 v7 S; exact uX3_weighMovesOf_85_b C _ ih v1 v2 v3 v4 v5 v6 v7 S
set_option maxHeartbeats 4000000 in
set_option maxRecDepth 100000 in
theorem uX3_weighMovesOf_68 (C : CX D [(cA, .int)] p s m args meth c A cX3_weighMovesOf 10 RX3 none) (v1 v2 v3 v4 v5 t0 t1 : Int32) (S : St) : RU D (wX a cA) p l e 2 s m args below meth c A 10 (QV D (wX a cA) [(cA, .int)] A) (fX3_weighMovesOf_68 v1 v2 v3 v4 v5 t0 t1 S) 68 [.int t0, .int t1] [(0, .ref (a 3)), (1, .int v1), (2, .int v2), (3, .int v3), (4, .int v4), (5, .int v5)] S := by
  unfold fX3_weighMovesOf_68
  refine R_iadd C dX3_weighMovesOf_68 ?_
  refine R_let (fun x1 => ?_)
  refine R_istore (lv' := [(6, .int x1), (0, .ref (a 3)), (1, .int v1), (2, .int v2), (3, .int v3), (4, .int v4), (5, .int v5)]) C dX3_weighMovesOf_69 (by decide) rfl ?_
  refine R_iload C dX3_weighMovesOf_71 0 rfl ?_
  refine R_ineg C dX3_weighMovesOf_73 ?_
  refine R_aload_n C dX3_weighMovesOf_74 rfl 1 rfl ?_
  refine gtX_X3_copiesChange C wd_1_130 dX3_weighMovesOf_75 ?_
  refine R_icmp_le (tgt := 82) C dX3_weighMovesOf_78 (by decide) ?_ ?_
  · refine R_iconst (v := (0 : Int32)) C dX3_weighMovesOf_82 (by decide) ?_
    refine R_istore (lv' := [(7, .int (0 : Int32)), (6, .int x1), (0, .ref (a 3)), (1, .int v1), (2, .int v2), (3, .int v3), (4, .int v4), (5, .int v5)]) C dX3_weighMovesOf_83 (by decide) rfl ?_
    refine R_sub [2, 3, 4, 5, 6, 7, 1, 0] rfl ?_
    exact uX3_weighMovesOf_85 C FU v1 v2 v3 v4 v5 x1 (0 : Int32) S
  · exact R_retv C dX3_weighMovesOf_81
set_option maxHeartbeats 4000000 in
set_option maxRecDepth 100000 in
theorem uX3_weighMovesOf_50 (C : CX D [(cA, .int)] p s m args meth c A cX3_weighMovesOf 10 RX3 none) (v1 v2 v3 v4 v5 t0 : Int32) (S : St) : RU D (wX a cA) p l e 2 s m args below meth c A 10 (QV D (wX a cA) [(cA, .int)] A) (fX3_weighMovesOf_50 v1 v2 v3 v4 v5 t0 S) 50 [.int t0] [(0, .ref (a 3)), (1, .int v1), (2, .int v2), (3, .int v3), (4, .int v4), (5, .int v5)] S := by
  unfold fX3_weighMovesOf_50
  refine R_aload_n C dX3_weighMovesOf_50 rfl 0 rfl ?_
  refine gtX_X3_net C wd_1_125 dX3_weighMovesOf_51 ?_
  refine R_iload C dX3_weighMovesOf_54 5 rfl ?_
  refine R_iload_n C dX3_weighMovesOf_56 rfl 3 rfl ?_
  refine R_calli (As := [.int v5, .int v3]) (st := [.int t0]) C (kX4_hasOneLineAt l D a cA S v5 v3) (by decide) (by decide) wd_2_98 kwX4_hasOneLineAt 1 rfl rfl rfl rfl (Nat.le_of_ble_eq_true rfl) dX3_weighMovesOf_57 (fun r1 S2 => ?_)
  refine R_if_eq (tgt := 67) C dX3_weighMovesOf_60 (by decide) ?_ ?_
  · refine R_iconst (v := (0 : Int32)) C dX3_weighMovesOf_67 (by decide) ?_
    exact uX3_weighMovesOf_68 C v1 v2 v3 v4 v5 (0 : Int32) t0 S2
  · refine R_iconst (v := (1 : Int32)) C dX3_weighMovesOf_63 (by decide) ?_
    refine R_goto (tgt := 68) C dX3_weighMovesOf_64 (by decide) ?_
    exact uX3_weighMovesOf_68 C v1 v2 v3 v4 v5 (1 : Int32) t0 S2
set_option maxHeartbeats 4000000 in
set_option maxRecDepth 100000 in
theorem uX3_weighMovesOf (C : CX D [(cA, .int)] p s m args meth c A cX3_weighMovesOf 10 RX3 none) (v1 v2 : Int32) (S : St) : RU D (wX a cA) p l e 2 s m args below meth c A 10 (QV D (wX a cA) [(cA, .int)] A) (fX3_weighMovesOf v1 v2 S) 0 [] [(0, .ref (a 3)), (1, .int v1), (2, .int v2)] S := by
  unfold fX3_weighMovesOf
  refine R_aload_n C dX3_weighMovesOf_0 rfl 0 rfl ?_
  refine gtX_X3_net C wd_1_125 dX3_weighMovesOf_1 ?_
  refine gtX_X4_hostOf C wd_1_43 dX3_weighMovesOf_4 ?_
  refine R_iload_n C dX3_weighMovesOf_7 rfl 1 rfl ?_
  refine ldX3 C dX3_weighMovesOf_8 ?_
  refine R_let (fun x1 => ?_)
  refine R_istore_n (lv' := [(3, .int x1), (0, .ref (a 3)), (1, .int v1), (2, .int v2)]) C dX3_weighMovesOf_9 rfl (by decide) rfl ?_
  refine R_aload_n C dX3_weighMovesOf_10 rfl 1 rfl ?_
  refine gtX_X3_net C wd_1_125 dX3_weighMovesOf_11 ?_
  refine gtX_X4_firstEnd C wd_1_34 dX3_weighMovesOf_14 ?_
  refine R_iload_n C dX3_weighMovesOf_17 rfl 2 rfl ?_
  refine ldX1 C dX3_weighMovesOf_18 ?_
  refine R_let (fun x2 => ?_)
  refine R_istore (lv' := [(4, .int x2), (3, .int x1), (0, .ref (a 3)), (1, .int v1), (2, .int v2)]) C dX3_weighMovesOf_19 (by decide) rfl ?_
  refine R_aload_n C dX3_weighMovesOf_21 rfl 2 rfl ?_
  refine gtX_X3_net C wd_1_125 dX3_weighMovesOf_22 ?_
  refine gtX_X4_secondEnd C wd_1_39 dX3_weighMovesOf_25 ?_
  refine R_iload_n C dX3_weighMovesOf_28 rfl 3 rfl ?_
  refine ldX2 C dX3_weighMovesOf_29 ?_
  refine R_let (fun x3 => ?_)
  refine R_istore (lv' := [(5, .int x3), (4, .int x2), (3, .int x1), (0, .ref (a 3)), (1, .int v1), (2, .int v2)]) C dX3_weighMovesOf_30 (by decide) rfl ?_
  refine R_aload_n C dX3_weighMovesOf_32 rfl 3 rfl ?_
  refine gtX_X3_net C wd_1_125 dX3_weighMovesOf_33 ?_
  refine R_iload C dX3_weighMovesOf_36 1 rfl ?_
  refine R_iload_n C dX3_weighMovesOf_38 rfl 2 rfl ?_
  refine R_calli (As := [.int x2, .int x1]) (st := []) C (kX4_hasOneLineAt l D a cA S x2 x1) (by decide) (by decide) wd_2_98 kwX4_hasOneLineAt 1 rfl rfl rfl rfl (Nat.le_of_ble_eq_true rfl) dX3_weighMovesOf_39 (fun r4 S5 => ?_)
  refine R_if_eq (tgt := 49) C dX3_weighMovesOf_42 (by decide) ?_ ?_
  · refine R_iconst (v := (0 : Int32)) C dX3_weighMovesOf_49 (by decide) ?_
    refine R_sub [3, 4, 5, 2, 1, 0] rfl ?_
    exact uX3_weighMovesOf_50 C v1 v2 x1 x2 x3 (0 : Int32) S5
  · refine R_iconst (v := (1 : Int32)) C dX3_weighMovesOf_45 (by decide) ?_
    refine R_goto (tgt := 50) C dX3_weighMovesOf_46 (by decide) ?_
    refine R_sub [3, 4, 5, 2, 1, 0] rfl ?_
    exact uX3_weighMovesOf_50 C v1 v2 x1 x2 x3 (1 : Int32) S5
set_option maxHeartbeats 4000000 in
set_option maxRecDepth 100000 in
theorem kX3_weighMovesOf (l : Launch) (D : va_G) (a : Nat → Nat) (cA : ClassId) (S : St) (v1 v2 : Int32) : CV l D (wX a cA) [(cA, .int)] yX3_weighMovesOf (.code yX3_weighMovesOf cX3_weighMovesOf 10 none) 2 [.ref (a 3), .int v1, .int v2] (fX3_weighMovesOf v1 v2 S) S := CV_of rfl (Nat.le_of_ble_eq_true rfl) (fun p e s m args below meth c A C => uX3_weighMovesOf C v1 v2 S)
theorem dX3_findMove_0 : decode cX3_findMove 0 = .ok (.aload_n 0, 1) := by decide +kernel
theorem dX3_findMove_1 : decode cX3_findMove 1 = .ok (.iconst (-1), 1) := by decide +kernel
theorem dX3_findMove_2 : decode cX3_findMove 2 = .ok (.putfield 15, 3) := by decide +kernel
theorem dX3_findMove_5 : decode cX3_findMove 5 = .ok (.aload_n 0, 1) := by decide +kernel
theorem dX3_findMove_6 : decode cX3_findMove 6 = .ok (.iconst (-1), 1) := by decide +kernel
theorem dX3_findMove_7 : decode cX3_findMove 7 = .ok (.putfield 19, 3) := by decide +kernel
theorem dX3_findMove_10 : decode cX3_findMove 10 = .ok (.aload_n 0, 1) := by decide +kernel
theorem dX3_findMove_11 : decode cX3_findMove 11 = .ok (.iconst 0, 1) := by decide +kernel
theorem dX3_findMove_12 : decode cX3_findMove 12 = .ok (.putfield 22, 3) := by decide +kernel
theorem dX3_findMove_15 : decode cX3_findMove 15 = .ok (.aload_n 0, 1) := by decide +kernel
theorem dX3_findMove_16 : decode cX3_findMove 16 = .ok (.iconst 0, 1) := by decide +kernel
theorem dX3_findMove_17 : decode cX3_findMove 17 = .ok (.putfield 25, 3) := by decide +kernel
theorem dX3_findMove_20 : decode cX3_findMove 20 = .ok (.iconst 0, 1) := by decide +kernel
theorem dX3_findMove_21 : decode cX3_findMove 21 = .ok (.istore_n 2, 1) := by decide +kernel
theorem dX3_findMove_22 : decode cX3_findMove 22 = .ok (.iload_n 2, 1) := by decide +kernel
theorem dX3_findMove_23 : decode cX3_findMove 23 = .ok (.aload_n 0, 1) := by decide +kernel
theorem dX3_findMove_24 : decode cX3_findMove 24 = .ok (.getfield 9, 3) := by decide +kernel
theorem dX3_findMove_27 : decode cX3_findMove 27 = .ok (.getfield 28, 3) := by decide +kernel
theorem dX3_findMove_30 : decode cX3_findMove 30 = .ok (.if_icmp .ge 26, 3) := by decide +kernel
theorem dX3_findMove_33 : decode cX3_findMove 33 = .ok (.aload_n 0, 1) := by decide +kernel
theorem dX3_findMove_34 : decode cX3_findMove 34 = .ok (.getfield 9, 3) := by decide +kernel
theorem dX3_findMove_37 : decode cX3_findMove 37 = .ok (.iload_n 2, 1) := by decide +kernel
theorem dX3_findMove_38 : decode cX3_findMove 38 = .ok (.invokevirtual 33, 3) := by decide +kernel
theorem dX3_findMove_41 : decode cX3_findMove 41 = .ok (.ifCond .eq 9, 3) := by decide +kernel
theorem dX3_findMove_44 : decode cX3_findMove 44 = .ok (.aload_n 0, 1) := by decide +kernel
theorem dX3_findMove_45 : decode cX3_findMove 45 = .ok (.iload_n 2, 1) := by decide +kernel
theorem dX3_findMove_46 : decode cX3_findMove 46 = .ok (.iload_n 1, 1) := by decide +kernel
theorem dX3_findMove_47 : decode cX3_findMove 47 = .ok (.invokevirtual 37, 3) := by decide +kernel
theorem dX3_findMove_50 : decode cX3_findMove 50 = .ok (.iinc 2 1, 3) := by decide +kernel
theorem dX3_findMove_53 : decode cX3_findMove 53 = .ok (.goto (-31), 3) := by decide +kernel
theorem dX3_findMove_56 : decode cX3_findMove 56 = .ok (.aload_n 0, 1) := by decide +kernel
theorem dX3_findMove_57 : decode cX3_findMove 57 = .ok (.getfield 15, 3) := by decide +kernel
theorem dX3_findMove_60 : decode cX3_findMove 60 = .ok (.iconst (-1), 1) := by decide +kernel
theorem dX3_findMove_61 : decode cX3_findMove 61 = .ok (.if_icmp .eq 7, 3) := by decide +kernel
theorem dX3_findMove_64 : decode cX3_findMove 64 = .ok (.iconst 1, 1) := by decide +kernel
theorem dX3_findMove_65 : decode cX3_findMove 65 = .ok (.goto 4, 3) := by decide +kernel
theorem dX3_findMove_68 : decode cX3_findMove 68 = .ok (.iconst 0, 1) := by decide +kernel
theorem dX3_findMove_69 : decode cX3_findMove 69 = .ok (.ireturn, 1) := by decide +kernel
set_option maxHeartbeats 4000000 in
set_option maxRecDepth 100000 in
theorem uX3_findMove_69 (C : CX D [(cA, .int)] p s m args meth c A cX3_findMove 3 RX3 (some .boolean)) (t0 : Int32) (S : St) : RU D (wX a cA) p l e 3 s m args below meth c A 3 (QI D (wX a cA) [(cA, .int)] A) (fX3_findMove_69 t0 S) 69 [.int t0] [] S := by
  unfold fX3_findMove_69
  exact R_retz C dX3_findMove_69
set_option maxHeartbeats 4000000 in
set_option maxRecDepth 100000 in
theorem uX3_findMove_50 (C : CX D [(cA, .int)] p s m args meth c A cX3_findMove 3 RX3 (some .boolean)) (k22 : Int32 → Int32 → St → Rs) (h22 : ∀ (v1 v2 : Int32) (S : St), RU D (wX a cA) p l e 3 s m args below meth c A 3 (QI D (wX a cA) [(cA, .int)] A) (k22 v1 v2 S) 22 [] [(0, .ref (a 3)), (1, .int v1), (2, .int v2)] S) (v1 v2 : Int32) (S : St) : RU D (wX a cA) p l e 3 s m args below meth c A 3 (QI D (wX a cA) [(cA, .int)] A) (fX3_findMove_50 k22 v1 v2 S) 50 [] [(0, .ref (a 3)), (1, .int v1), (2, .int v2)] S := by
  unfold fX3_findMove_50
  refine R_iinc (v := v2 + 1) (lv' := [(2, .int (v2 + 1)), (0, .ref (a 3)), (1, .int v1)]) C dX3_findMove_50 2 rfl rfl (by decide) rfl ?_
  refine R_goto (tgt := 22) C dX3_findMove_53 (by decide) ?_
  refine R_sub [1, 2, 0] rfl ?_
  exact h22 v1 (v2 + 1) S
set_option maxHeartbeats 4000000 in
set_option maxRecDepth 100000 in
theorem uX3_findMove_22_b (C : CX D [(cA, .int)] p s m args meth c A cX3_findMove 3 RX3 (some .boolean)) (k22 : Int32 → Int32 → St → Rs) (h22 : ∀ (v1 v2 : Int32) (S : St), RU D (wX a cA) p l e 3 s m args below meth c A 3 (QI D (wX a cA) [(cA, .int)] A) (k22 v1 v2 S) 22 [] [(0, .ref (a 3)), (1, .int v1), (2, .int v2)] S) (v1 v2 : Int32) (S : St) : RU D (wX a cA) p l e 3 s m args below meth c A 3 (QI D (wX a cA) [(cA, .int)] A) (fX3_findMove_22_b k22 v1 v2 S) 22 [] [(0, .ref (a 3)), (1, .int v1), (2, .int v2)] S := by
  unfold fX3_findMove_22_b
  refine R_iload_n C dX3_findMove_22 rfl 2 rfl ?_
  refine R_aload_n C dX3_findMove_23 rfl 0 rfl ?_
  refine gtX_X3_net C wd_1_125 dX3_findMove_24 ?_
  refine gtX_X4_came C wd_1_63 dX3_findMove_27 ?_
  refine R_icmp_ge (tgt := 56) C dX3_findMove_30 (by decide) ?_ ?_
  · refine R_aload_n C dX3_findMove_56 rfl 0 rfl ?_
    refine gtX_X3_chosenLine C wd_1_126 dX3_findMove_57 ?_
    refine R_iconst (v := (-1 : Int32)) C dX3_findMove_60 (by decide) ?_
    refine R_icmp_eq (tgt := 68) C dX3_findMove_61 (by decide) ?_ ?_
    · refine R_iconst (v := (0 : Int32)) C dX3_findMove_68 (by decide) ?_
      refine R_sub [] rfl ?_
      exact uX3_findMove_69 C (0 : Int32) S
    · refine R_iconst (v := (1 : Int32)) C dX3_findMove_64 (by decide) ?_
      refine R_goto (tgt := 69) C dX3_findMove_65 (by decide) ?_
      refine R_sub [] rfl ?_
      exact uX3_findMove_69 C (1 : Int32) S
  · refine R_aload_n C dX3_findMove_33 rfl 0 rfl ?_
    refine gtX_X3_net C wd_1_125 dX3_findMove_34 ?_
    refine R_iload_n C dX3_findMove_37 rfl 2 rfl ?_
    refine R_calli (As := [.int v2]) (st := []) C (kX4_isLive l D a cA S v2) (by decide) (by decide) wd_2_93 kwX4_isLive 1 rfl rfl rfl rfl (Nat.le_of_ble_eq_true rfl) dX3_findMove_38 (fun r1 S2 => ?_)
    refine R_if_eq (tgt := 50) C dX3_findMove_41 (by decide) ?_ ?_
    · exact uX3_findMove_50 C k22 h22 v1 v2 S2
    · refine R_aload_n C dX3_findMove_44 rfl 0 rfl ?_
      refine R_iload_n C dX3_findMove_45 rfl 2 rfl ?_
      refine R_iload_n C dX3_findMove_46 rfl 1 rfl ?_
      refine R_callv (As := [.int v2, .int v1]) (st := []) C (kX3_weighMovesOf l D a cA S2 v2 v1) (by decide) (by decide) wd_2_94 kwX3_weighMovesOf 3 rfl rfl rfl rfl (Nat.le_of_ble_eq_true rfl) dX3_findMove_47 (fun r3 S4 => ?_)
      exact uX3_findMove_50 C k22 h22 v1 v2 S4
set_option maxHeartbeats 4000000 in
set_option maxRecDepth 100000 in
theorem uX3_findMove_22 (C : CX D [(cA, .int)] p s m args meth c A cX3_findMove 3 RX3 (some .boolean)) : ∀ (n : Nat) (v1 v2 : Int32) (S : St), RU D (wX a cA) p l e 3 s m args below meth c A 3 (QI D (wX a cA) [(cA, .int)] A) (fX3_findMove_22 n v1 v2 S) 22 [] [(0, .ref (a 3)), (1, .int v1), (2, .int v2)] S := by
  intro n
  induction n with
  | zero => intro v1 v2 S; exact R_none
  | succ n ih => intro v1 v2 S; exact uX3_findMove_22_b C _ ih v1 v2 S
set_option maxHeartbeats 4000000 in
set_option maxRecDepth 100000 in
theorem uX3_findMove (C : CX D [(cA, .int)] p s m args meth c A cX3_findMove 3 RX3 (some .boolean)) (v1 : Int32) (S : St) : RU D (wX a cA) p l e 3 s m args below meth c A 3 (QI D (wX a cA) [(cA, .int)] A) (fX3_findMove v1 S) 0 [] [(0, .ref (a 3)), (1, .int v1)] S := by
  unfold fX3_findMove
  refine R_aload_n C dX3_findMove_0 rfl 0 rfl ?_
  refine R_iconst (v := (-1 : Int32)) C dX3_findMove_1 (by decide) ?_
  refine ptX_X3_chosenLine C wd_1_126 dX3_findMove_2 ?_
  refine R_letS (fun S1 => ?_)
  refine R_aload_n C dX3_findMove_5 rfl 0 rfl ?_
  refine R_iconst (v := (-1 : Int32)) C dX3_findMove_6 (by decide) ?_
  refine ptX_X3_chosenHost C wd_1_128 dX3_findMove_7 ?_
  refine R_letS (fun S2 => ?_)
  refine R_aload_n C dX3_findMove_10 rfl 0 rfl ?_
  refine R_iconst (v := (0 : Int32)) C dX3_findMove_11 (by decide) ?_
  refine ptX_X3_copiesChange C wd_1_130 dX3_findMove_12 ?_
  refine R_letS (fun S3 => ?_)
  refine R_aload_n C dX3_findMove_15 rfl 0 rfl ?_
  refine R_iconst (v := (0 : Int32)) C dX3_findMove_16 (by decide) ?_
  refine ptX_X3_squaresChange C wd_1_131 dX3_findMove_17 ?_
  refine R_letS (fun S4 => ?_)
  refine R_iconst (v := (0 : Int32)) C dX3_findMove_20 (by decide) ?_
  refine R_istore_n (lv' := [(2, .int (0 : Int32)), (0, .ref (a 3)), (1, .int v1)]) C dX3_findMove_21 rfl (by decide) rfl ?_
  refine R_sub [1, 2, 0] rfl ?_
  exact uX3_findMove_22 C FU v1 (0 : Int32) S4
set_option maxHeartbeats 4000000 in
set_option maxRecDepth 100000 in
theorem kX3_findMove (l : Launch) (D : va_G) (a : Nat → Nat) (cA : ClassId) (S : St) (v1 : Int32) : CI l D (wX a cA) [(cA, .int)] yX3_findMove (.code yX3_findMove cX3_findMove 3 (some .boolean)) 3 [.ref (a 3), .int v1] (fX3_findMove v1 S) S := CI_of rfl (Nat.le_of_ble_eq_true rfl) (fun p e s m args below meth c A C => uX3_findMove C v1 S)
theorem dX6_makeBetterMove_0 : decode cX6_makeBetterMove 0 = .ok (.aload_n 0, 1) := by decide +kernel
theorem dX6_makeBetterMove_1 : decode cX6_makeBetterMove 1 = .ok (.getfield 39, 3) := by decide +kernel
theorem dX6_makeBetterMove_4 : decode cX6_makeBetterMove 4 = .ok (.aload_n 0, 1) := by decide +kernel
theorem dX6_makeBetterMove_5 : decode cX6_makeBetterMove 5 = .ok (.getfield 32, 3) := by decide +kernel
theorem dX6_makeBetterMove_8 : decode cX6_makeBetterMove 8 = .ok (.aload_n 0, 1) := by decide +kernel
theorem dX6_makeBetterMove_9 : decode cX6_makeBetterMove 9 = .ok (.getfield 23, 3) := by decide +kernel
theorem dX6_makeBetterMove_12 : decode cX6_makeBetterMove 12 = .ok (.getfield 139, 3) := by decide +kernel
theorem dX6_makeBetterMove_15 : decode cX6_makeBetterMove 15 = .ok (.invokevirtual 142, 3) := by decide +kernel
theorem dX6_makeBetterMove_18 : decode cX6_makeBetterMove 18 = .ok (.invokevirtual 176, 3) := by decide +kernel
theorem dX6_makeBetterMove_21 : decode cX6_makeBetterMove 21 = .ok (.ifCond .ne 5, 3) := by decide +kernel
theorem dX6_makeBetterMove_24 : decode cX6_makeBetterMove 24 = .ok (.iconst 0, 1) := by decide +kernel
theorem dX6_makeBetterMove_25 : decode cX6_makeBetterMove 25 = .ok (.ireturn, 1) := by decide +kernel
theorem dX6_makeBetterMove_26 : decode cX6_makeBetterMove 26 = .ok (.aload_n 0, 1) := by decide +kernel
theorem dX6_makeBetterMove_27 : decode cX6_makeBetterMove 27 = .ok (.getfield 23, 3) := by decide +kernel
theorem dX6_makeBetterMove_30 : decode cX6_makeBetterMove 30 = .ok (.aload_n 0, 1) := by decide +kernel
theorem dX6_makeBetterMove_31 : decode cX6_makeBetterMove 31 = .ok (.getfield 39, 3) := by decide +kernel
theorem dX6_makeBetterMove_34 : decode cX6_makeBetterMove 34 = .ok (.getfield 179, 3) := by decide +kernel
theorem dX6_makeBetterMove_37 : decode cX6_makeBetterMove 37 = .ok (.invokevirtual 101, 3) := by decide +kernel
theorem dX6_makeBetterMove_40 : decode cX6_makeBetterMove 40 = .ok (.pop, 1) := by decide +kernel
theorem dX6_makeBetterMove_41 : decode cX6_makeBetterMove 41 = .ok (.aload_n 0, 1) := by decide +kernel
theorem dX6_makeBetterMove_42 : decode cX6_makeBetterMove 42 = .ok (.getfield 23, 3) := by decide +kernel
theorem dX6_makeBetterMove_45 : decode cX6_makeBetterMove 45 = .ok (.aload_n 0, 1) := by decide +kernel
theorem dX6_makeBetterMove_46 : decode cX6_makeBetterMove 46 = .ok (.getfield 39, 3) := by decide +kernel
theorem dX6_makeBetterMove_49 : decode cX6_makeBetterMove 49 = .ok (.getfield 179, 3) := by decide +kernel
theorem dX6_makeBetterMove_52 : decode cX6_makeBetterMove 52 = .ok (.aload_n 0, 1) := by decide +kernel
theorem dX6_makeBetterMove_53 : decode cX6_makeBetterMove 53 = .ok (.getfield 39, 3) := by decide +kernel
theorem dX6_makeBetterMove_56 : decode cX6_makeBetterMove 56 = .ok (.getfield 182, 3) := by decide +kernel
theorem dX6_makeBetterMove_59 : decode cX6_makeBetterMove 59 = .ok (.invokevirtual 185, 3) := by decide +kernel
theorem dX6_makeBetterMove_62 : decode cX6_makeBetterMove 62 = .ok (.iconst 1, 1) := by decide +kernel
theorem dX6_makeBetterMove_63 : decode cX6_makeBetterMove 63 = .ok (.ireturn, 1) := by decide +kernel
set_option maxHeartbeats 4000000 in
set_option maxRecDepth 100000 in
theorem uX6_makeBetterMove (C : CX D [(cA, .int)] p s m args meth c A cX6_makeBetterMove 1 RX6 (some .boolean)) (S : St) : RU D (wX a cA) p l e 4 s m args below meth c A 1 (QI D (wX a cA) [(cA, .int)] A) (fX6_makeBetterMove S) 0 [] [(0, .ref (a 0))] S := by
  unfold fX6_makeBetterMove
  refine R_aload_n C dX6_makeBetterMove_0 rfl 0 rfl ?_
  refine gtX_X6_moveSearch C wd_1_207 dX6_makeBetterMove_1 ?_
  refine R_aload_n C dX6_makeBetterMove_4 rfl 0 rfl ?_
  refine gtX_X6_dealing C wd_1_206 dX6_makeBetterMove_5 ?_
  refine R_aload_n C dX6_makeBetterMove_8 rfl 0 rfl ?_
  refine gtX_X6_net C wd_1_205 dX6_makeBetterMove_9 ?_
  refine gtX_X4_live C wd_1_69 dX6_makeBetterMove_12 ?_
  refine R_calli (As := [.int (S.1 4)]) (st := [.ref (a 3)]) C (kX1_roomFor l D a cA S (S.1 4)) (by decide) (by decide) wd_2_88 kwX1_roomFor 2 rfl rfl rfl rfl (Nat.le_of_ble_eq_true rfl) dX6_makeBetterMove_15 (fun r1 S2 => ?_)
  refine R_calli (As := [.int r1]) (st := []) C (kX3_findMove l D a cA S2 r1) (by decide) (by decide) wd_2_89 kwX3_findMove 3 rfl rfl rfl rfl (Nat.le_of_ble_eq_true rfl) dX6_makeBetterMove_18 (fun r3 S4 => ?_)
  refine R_if_ne (tgt := 26) C dX6_makeBetterMove_21 (by decide) ?_ ?_
  · refine R_iconst (v := (0 : Int32)) C dX6_makeBetterMove_24 (by decide) ?_
    exact R_retz C dX6_makeBetterMove_25
  · refine R_aload_n C dX6_makeBetterMove_26 rfl 0 rfl ?_
    refine gtX_X6_net C wd_1_205 dX6_makeBetterMove_27 ?_
    refine R_aload_n C dX6_makeBetterMove_30 rfl 0 rfl ?_
    refine gtX_X6_moveSearch C wd_1_207 dX6_makeBetterMove_31 ?_
    refine gtX_X3_chosenLine C wd_1_127 dX6_makeBetterMove_34 ?_
    refine R_calli (As := [.int (S4.1 9)]) (st := []) C (kX4_takeOff l D a cA S4 (S4.1 9)) (by decide) (by decide) wd_2_49 kwX4_takeOff 1 rfl rfl rfl rfl (Nat.le_of_ble_eq_true rfl) dX6_makeBetterMove_37 (fun r5 S6 => ?_)
    refine R_pop C dX6_makeBetterMove_40 rfl ?_
    refine R_aload_n C dX6_makeBetterMove_41 rfl 0 rfl ?_
    refine gtX_X6_net C wd_1_205 dX6_makeBetterMove_42 ?_
    refine R_aload_n C dX6_makeBetterMove_45 rfl 0 rfl ?_
    refine gtX_X6_moveSearch C wd_1_207 dX6_makeBetterMove_46 ?_
    refine gtX_X3_chosenLine C wd_1_127 dX6_makeBetterMove_49 ?_
    refine R_aload_n C dX6_makeBetterMove_52 rfl 0 rfl ?_
    refine gtX_X6_moveSearch C wd_1_207 dX6_makeBetterMove_53 ?_
    refine gtX_X3_chosenHost C wd_1_129 dX6_makeBetterMove_56 ?_
    refine R_callv (As := [.int (S6.1 9), .int (S6.1 10)]) (st := []) C (kX4_putOn l D a cA S6 (S6.1 9) (S6.1 10)) (by decide) (by decide) wd_2_107 kwX4_putOn 1 rfl rfl rfl rfl (Nat.le_of_ble_eq_true rfl) dX6_makeBetterMove_59 (fun r7 S8 => ?_)
    refine R_iconst (v := (1 : Int32)) C dX6_makeBetterMove_62 (by decide) ?_
    exact R_retz C dX6_makeBetterMove_63
set_option maxHeartbeats 4000000 in
set_option maxRecDepth 100000 in
theorem kX6_makeBetterMove (l : Launch) (D : va_G) (a : Nat → Nat) (cA : ClassId) (S : St) : CI l D (wX a cA) [(cA, .int)] yX6_makeBetterMove (.code yX6_makeBetterMove cX6_makeBetterMove 1 (some .boolean)) 4 [.ref (a 0)] (fX6_makeBetterMove S) S := CI_of rfl (Nat.le_of_ble_eq_true rfl) (fun p e s m args below meth c A C => uX6_makeBetterMove C S)
theorem dX6_better_0 : decode cX6_better 0 = .ok (.iload_n 1, 1) := by decide +kernel
theorem dX6_better_1 : decode cX6_better 1 = .ok (.ifCond .lt 9, 3) := by decide +kernel
theorem dX6_better_4 : decode cX6_better 4 = .ok (.iload_n 1, 1) := by decide +kernel
theorem dX6_better_5 : decode cX6_better 5 = .ok (.bipush 50, 2) := by decide +kernel
theorem dX6_better_7 : decode cX6_better 7 = .ok (.if_icmp .le 5, 3) := by decide +kernel
theorem dX6_better_10 : decode cX6_better 10 = .ok (.iconst (-1), 1) := by decide +kernel
theorem dX6_better_11 : decode cX6_better 11 = .ok (.ireturn, 1) := by decide +kernel
theorem dX6_better_12 : decode cX6_better 12 = .ok (.iconst 0, 1) := by decide +kernel
theorem dX6_better_13 : decode cX6_better 13 = .ok (.istore_n 2, 1) := by decide +kernel
theorem dX6_better_14 : decode cX6_better 14 = .ok (.iload_n 2, 1) := by decide +kernel
theorem dX6_better_15 : decode cX6_better 15 = .ok (.iload_n 1, 1) := by decide +kernel
theorem dX6_better_16 : decode cX6_better 16 = .ok (.if_icmp .ge 16, 3) := by decide +kernel
theorem dX6_better_19 : decode cX6_better 19 = .ok (.aload_n 0, 1) := by decide +kernel
theorem dX6_better_20 : decode cX6_better 20 = .ok (.invokevirtual 104, 3) := by decide +kernel
theorem dX6_better_23 : decode cX6_better 23 = .ok (.ifCond .eq 9, 3) := by decide +kernel
theorem dX6_better_26 : decode cX6_better 26 = .ok (.iinc 2 1, 3) := by decide +kernel
theorem dX6_better_29 : decode cX6_better 29 = .ok (.goto (-15), 3) := by decide +kernel
theorem dX6_better_32 : decode cX6_better 32 = .ok (.aload_n 0, 1) := by decide +kernel
theorem dX6_better_33 : decode cX6_better 33 = .ok (.dup, 1) := by decide +kernel
theorem dX6_better_34 : decode cX6_better 34 = .ok (.getfield 108, 3) := by decide +kernel
theorem dX6_better_37 : decode cX6_better 37 = .ok (.iload_n 2, 1) := by decide +kernel
theorem dX6_better_38 : decode cX6_better 38 = .ok (.iadd, 1) := by decide +kernel
theorem dX6_better_39 : decode cX6_better 39 = .ok (.putfield 108, 3) := by decide +kernel
theorem dX6_better_42 : decode cX6_better 42 = .ok (.iload_n 2, 1) := by decide +kernel
theorem dX6_better_43 : decode cX6_better 43 = .ok (.ireturn, 1) := by decide +kernel
set_option maxHeartbeats 4000000 in
set_option maxRecDepth 100000 in
theorem uX6_better_10 (C : CX D [(cA, .int)] p s m args meth c A cX6_better 3 RX6 (some .int)) (S : St) : RU D (wX a cA) p l e 5 s m args below meth c A 3 (QI D (wX a cA) [(cA, .int)] A) (fX6_better_10 S) 10 [] [] S := by
  unfold fX6_better_10
  refine R_iconst (v := (-1 : Int32)) C dX6_better_10 (by decide) ?_
  exact R_reti C dX6_better_11
set_option maxHeartbeats 4000000 in
set_option maxRecDepth 100000 in
theorem uX6_better_32 (C : CX D [(cA, .int)] p s m args meth c A cX6_better 3 RX6 (some .int)) (v2 : Int32) (S : St) : RU D (wX a cA) p l e 5 s m args below meth c A 3 (QI D (wX a cA) [(cA, .int)] A) (fX6_better_32 v2 S) 32 [] [(0, .ref (a 0)), (2, .int v2)] S := by
  unfold fX6_better_32
  refine R_aload_n C dX6_better_32 rfl 0 rfl ?_
  refine R_dup C dX6_better_33 rfl ?_
  refine gtX_X6_movesEver C wd_1_213 dX6_better_34 ?_
  refine R_iload_n C dX6_better_37 rfl 1 rfl ?_
  refine R_iadd C dX6_better_38 ?_
  refine ptX_X6_movesEver C wd_1_213 dX6_better_39 ?_
  refine R_letS (fun S1 => ?_)
  refine R_iload_n C dX6_better_42 rfl 1 rfl ?_
  exact R_reti C dX6_better_43
set_option maxHeartbeats 4000000 in
set_option maxRecDepth 100000 in
theorem uX6_better_14_b (C : CX D [(cA, .int)] p s m args meth c A cX6_better 3 RX6 (some .int)) (k14 : Int32 → Int32 → St → Rs) (h14 : ∀ (v1 v2 : Int32) (S : St), RU D (wX a cA) p l e 5 s m args below meth c A 3 (QI D (wX a cA) [(cA, .int)] A) (k14 v1 v2 S) 14 [] [(0, .ref (a 0)), (1, .int v1), (2, .int v2)] S) (v1 v2 : Int32) (S : St) : RU D (wX a cA) p l e 5 s m args below meth c A 3 (QI D (wX a cA) [(cA, .int)] A) (fX6_better_14_b k14 v1 v2 S) 14 [] [(0, .ref (a 0)), (1, .int v1), (2, .int v2)] S := by
  unfold fX6_better_14_b
  refine R_iload_n C dX6_better_14 rfl 2 rfl ?_
  refine R_iload_n C dX6_better_15 rfl 1 rfl ?_
  refine R_icmp_ge (tgt := 32) C dX6_better_16 (by decide) ?_ ?_
  · refine R_sub [0, 2] rfl ?_
    exact uX6_better_32 C v2 S
  · refine R_aload_n C dX6_better_19 rfl 0 rfl ?_
    refine R_calli (As := []) (st := []) C (kX6_makeBetterMove l D a cA S) (by decide) (by decide) wd_2_84 kwX6_makeBetterMove 0 rfl rfl rfl rfl (Nat.le_of_ble_eq_true rfl) dX6_better_20 (fun r1 S2 => ?_)
    refine R_if_eq (tgt := 32) C dX6_better_23 (by decide) ?_ ?_
    · refine R_sub [0, 2] rfl ?_
      exact uX6_better_32 C v2 S2
    · refine R_iinc (v := v2 + 1) (lv' := [(2, .int (v2 + 1)), (0, .ref (a 0)), (1, .int v1)]) C dX6_better_26 2 rfl rfl (by decide) rfl ?_
      refine R_goto (tgt := 14) C dX6_better_29 (by decide) ?_
      refine R_sub [1, 2, 0] rfl ?_
      exact h14 v1 (v2 + 1) S2
set_option maxHeartbeats 4000000 in
set_option maxRecDepth 100000 in
theorem uX6_better_14 (C : CX D [(cA, .int)] p s m args meth c A cX6_better 3 RX6 (some .int)) : ∀ (n : Nat) (v1 v2 : Int32) (S : St), RU D (wX a cA) p l e 5 s m args below meth c A 3 (QI D (wX a cA) [(cA, .int)] A) (fX6_better_14 n v1 v2 S) 14 [] [(0, .ref (a 0)), (1, .int v1), (2, .int v2)] S := by
  intro n
  induction n with
  | zero => intro v1 v2 S; exact R_none
  | succ n ih => intro v1 v2 S; exact uX6_better_14_b C _ ih v1 v2 S
set_option maxHeartbeats 4000000 in
set_option maxRecDepth 100000 in
theorem uX6_better (C : CX D [(cA, .int)] p s m args meth c A cX6_better 3 RX6 (some .int)) (v1 : Int32) (S : St) : RU D (wX a cA) p l e 5 s m args below meth c A 3 (QI D (wX a cA) [(cA, .int)] A) (fX6_better v1 S) 0 [] [(0, .ref (a 0)), (1, .int v1)] S := by
  unfold fX6_better
  refine R_iload_n C dX6_better_0 rfl 1 rfl ?_
  refine R_if_lt (tgt := 10) C dX6_better_1 (by decide) ?_ ?_
  · refine R_sub [] rfl ?_
    exact uX6_better_10 C S
  · refine R_iload_n C dX6_better_4 rfl 1 rfl ?_
    refine R_bipush (v := (50 : Int32)) C dX6_better_5 (by decide) ?_
    refine R_icmp_le (tgt := 12) C dX6_better_7 (by decide) ?_ ?_
    · refine R_iconst (v := (0 : Int32)) C dX6_better_12 (by decide) ?_
      refine R_istore_n (lv' := [(2, .int (0 : Int32)), (0, .ref (a 0)), (1, .int v1)]) C dX6_better_13 rfl (by decide) rfl ?_
      refine R_sub [1, 2, 0] rfl ?_
      exact uX6_better_14 C FU v1 (0 : Int32) S
    · refine R_sub [] rfl ?_
      exact uX6_better_10 C S
set_option maxHeartbeats 4000000 in
set_option maxRecDepth 100000 in
theorem kX6_better (l : Launch) (D : va_G) (a : Nat → Nat) (cA : ClassId) (S : St) (v1 : Int32) : CI l D (wX a cA) [(cA, .int)] yX6_better (.code yX6_better cX6_better 3 (some .int)) 5 [.ref (a 0), .int v1] (fX6_better v1 S) S := CI_of rfl (Nat.le_of_ble_eq_true rfl) (fun p e s m args below meth c A C => uX6_better C v1 S)
theorem dX6_more_0 : decode cX6_more 0 = .ok (.aload_n 0, 1) := by decide +kernel
theorem dX6_more_1 : decode cX6_more 1 = .ok (.getfield 23, 3) := by decide +kernel
theorem dX6_more_4 : decode cX6_more 4 = .ok (.getfield 111, 3) := by decide +kernel
theorem dX6_more_7 : decode cX6_more 7 = .ok (.bipush 8, 2) := by decide +kernel
theorem dX6_more_9 : decode cX6_more 9 = .ok (.if_icmp .lt 5, 3) := by decide +kernel
theorem dX6_more_12 : decode cX6_more 12 = .ok (.iconst (-1), 1) := by decide +kernel
theorem dX6_more_13 : decode cX6_more 13 = .ok (.ireturn, 1) := by decide +kernel
theorem dX6_more_14 : decode cX6_more 14 = .ok (.aload_n 0, 1) := by decide +kernel
theorem dX6_more_15 : decode cX6_more 15 = .ok (.getfield 23, 3) := by decide +kernel
theorem dX6_more_18 : decode cX6_more 18 = .ok (.dup, 1) := by decide +kernel
theorem dX6_more_19 : decode cX6_more 19 = .ok (.getfield 111, 3) := by decide +kernel
theorem dX6_more_22 : decode cX6_more 22 = .ok (.iconst 1, 1) := by decide +kernel
theorem dX6_more_23 : decode cX6_more 23 = .ok (.iadd, 1) := by decide +kernel
theorem dX6_more_24 : decode cX6_more 24 = .ok (.putfield 111, 3) := by decide +kernel
theorem dX6_more_27 : decode cX6_more 27 = .ok (.aload_n 0, 1) := by decide +kernel
theorem dX6_more_28 : decode cX6_more 28 = .ok (.getfield 23, 3) := by decide +kernel
theorem dX6_more_31 : decode cX6_more 31 = .ok (.getfield 111, 3) := by decide +kernel
theorem dX6_more_34 : decode cX6_more 34 = .ok (.ireturn, 1) := by decide +kernel
set_option maxHeartbeats 4000000 in
set_option maxRecDepth 100000 in
theorem uX6_more (C : CX D [(cA, .int)] p s m args meth c A cX6_more 1 RX6 (some .int)) (S : St) : RU D (wX a cA) p l e 1 s m args below meth c A 1 (QI D (wX a cA) [(cA, .int)] A) (fX6_more S) 0 [] [(0, .ref (a 0))] S := by
  unfold fX6_more
  refine R_aload_n C dX6_more_0 rfl 0 rfl ?_
  refine gtX_X6_net C wd_1_205 dX6_more_1 ?_
  refine gtX_X4_hosts C wd_1_61 dX6_more_4 ?_
  refine R_bipush (v := (8 : Int32)) C dX6_more_7 (by decide) ?_
  refine R_icmp_lt (tgt := 14) C dX6_more_9 (by decide) ?_ ?_
  · refine R_aload_n C dX6_more_14 rfl 0 rfl ?_
    refine gtX_X6_net C wd_1_205 dX6_more_15 ?_
    refine R_dup C dX6_more_18 rfl ?_
    refine gtX_X4_hosts C wd_1_61 dX6_more_19 ?_
    refine R_iconst (v := (1 : Int32)) C dX6_more_22 (by decide) ?_
    refine R_iadd C dX6_more_23 ?_
    refine ptX_X4_hosts C wd_1_61 dX6_more_24 ?_
    refine R_letS (fun S1 => ?_)
    refine R_aload_n C dX6_more_27 rfl 0 rfl ?_
    refine gtX_X6_net C wd_1_205 dX6_more_28 ?_
    refine gtX_X4_hosts C wd_1_61 dX6_more_31 ?_
    exact R_reti C dX6_more_34
  · refine R_iconst (v := (-1 : Int32)) C dX6_more_12 (by decide) ?_
    exact R_reti C dX6_more_13
set_option maxHeartbeats 4000000 in
set_option maxRecDepth 100000 in
theorem kX6_more (l : Launch) (D : va_G) (a : Nat → Nat) (cA : ClassId) (S : St) : CI l D (wX a cA) [(cA, .int)] yX6_more (.code yX6_more cX6_more 1 (some .int)) 1 [.ref (a 0)] (fX6_more S) S := CI_of rfl (Nat.le_of_ble_eq_true rfl) (fun p e s m args below meth c A C => uX6_more C S)
end
end
section
/-! walks of the class -/
section
variable {D : va_G} {a : Nat → Nat} {cA cZ : ClassId} {p : Program} {l : Launch} {e : Env} {s : State} {m : MethodId} {args : Array Value} {below : List Frame} {meth : Method} {c : Code} {A : Nat → Prop}

theorem dX4_dropHost_0 : decode cX4_dropHost 0 = .ok (.iconst 0, 1) := by decide +kernel
theorem dX4_dropHost_1 : decode cX4_dropHost 1 = .ok (.istore_n 3, 1) := by decide +kernel
theorem dX4_dropHost_2 : decode cX4_dropHost 2 = .ok (.iconst 0, 1) := by decide +kernel
theorem dX4_dropHost_3 : decode cX4_dropHost 3 = .ok (.istore 4, 2) := by decide +kernel
theorem dX4_dropHost_5 : decode cX4_dropHost 5 = .ok (.iload 4, 2) := by decide +kernel
theorem dX4_dropHost_7 : decode cX4_dropHost 7 = .ok (.aload_n 0, 1) := by decide +kernel
theorem dX4_dropHost_8 : decode cX4_dropHost 8 = .ok (.getfield 37, 3) := by decide +kernel
theorem dX4_dropHost_11 : decode cX4_dropHost 11 = .ok (.if_icmp .ge 71, 3) := by decide +kernel
theorem dX4_dropHost_14 : decode cX4_dropHost 14 = .ok (.aload_n 0, 1) := by decide +kernel
theorem dX4_dropHost_15 : decode cX4_dropHost 15 = .ok (.getfield 18, 3) := by decide +kernel
theorem dX4_dropHost_18 : decode cX4_dropHost 18 = .ok (.iload 4, 2) := by decide +kernel
theorem dX4_dropHost_20 : decode cX4_dropHost 20 = .ok (.iaload, 1) := by decide +kernel
theorem dX4_dropHost_21 : decode cX4_dropHost 21 = .ok (.istore 5, 2) := by decide +kernel
theorem dX4_dropHost_23 : decode cX4_dropHost 23 = .ok (.iload 5, 2) := by decide +kernel
theorem dX4_dropHost_25 : decode cX4_dropHost 25 = .ok (.iload_n 1, 1) := by decide +kernel
theorem dX4_dropHost_26 : decode cX4_dropHost 26 = .ok (.if_icmp .ne 27, 3) := by decide +kernel
theorem dX4_dropHost_29 : decode cX4_dropHost 29 = .ok (.iload_n 3, 1) := by decide +kernel
theorem dX4_dropHost_30 : decode cX4_dropHost 30 = .ok (.aload_n 2, 1) := by decide +kernel
theorem dX4_dropHost_31 : decode cX4_dropHost 31 = .ok (.arraylength, 1) := by decide +kernel
theorem dX4_dropHost_32 : decode cX4_dropHost 32 = .ok (.if_icmp .ge 21, 3) := by decide +kernel
theorem dX4_dropHost_35 : decode cX4_dropHost 35 = .ok (.aload_n 0, 1) := by decide +kernel
theorem dX4_dropHost_36 : decode cX4_dropHost 36 = .ok (.iload 4, 2) := by decide +kernel
theorem dX4_dropHost_38 : decode cX4_dropHost 38 = .ok (.invokevirtual 60, 3) := by decide +kernel
theorem dX4_dropHost_41 : decode cX4_dropHost 41 = .ok (.pop, 1) := by decide +kernel
theorem dX4_dropHost_42 : decode cX4_dropHost 42 = .ok (.aload_n 2, 1) := by decide +kernel
theorem dX4_dropHost_43 : decode cX4_dropHost 43 = .ok (.iload_n 3, 1) := by decide +kernel
theorem dX4_dropHost_44 : decode cX4_dropHost 44 = .ok (.iload 4, 2) := by decide +kernel
theorem dX4_dropHost_46 : decode cX4_dropHost 46 = .ok (.iastore, 1) := by decide +kernel
theorem dX4_dropHost_47 : decode cX4_dropHost 47 = .ok (.iinc 3 1, 3) := by decide +kernel
theorem dX4_dropHost_50 : decode cX4_dropHost 50 = .ok (.goto 26, 3) := by decide +kernel
theorem dX4_dropHost_53 : decode cX4_dropHost 53 = .ok (.iload 5, 2) := by decide +kernel
theorem dX4_dropHost_55 : decode cX4_dropHost 55 = .ok (.iload_n 1, 1) := by decide +kernel
theorem dX4_dropHost_56 : decode cX4_dropHost 56 = .ok (.if_icmp .le 20, 3) := by decide +kernel
theorem dX4_dropHost_59 : decode cX4_dropHost 59 = .ok (.aload_n 0, 1) := by decide +kernel
theorem dX4_dropHost_60 : decode cX4_dropHost 60 = .ok (.iload 4, 2) := by decide +kernel
theorem dX4_dropHost_62 : decode cX4_dropHost 62 = .ok (.invokevirtual 60, 3) := by decide +kernel
theorem dX4_dropHost_65 : decode cX4_dropHost 65 = .ok (.pop, 1) := by decide +kernel
theorem dX4_dropHost_66 : decode cX4_dropHost 66 = .ok (.aload_n 0, 1) := by decide +kernel
theorem dX4_dropHost_67 : decode cX4_dropHost 67 = .ok (.iload 4, 2) := by decide +kernel
theorem dX4_dropHost_69 : decode cX4_dropHost 69 = .ok (.iload 5, 2) := by decide +kernel
theorem dX4_dropHost_71 : decode cX4_dropHost 71 = .ok (.iconst 1, 1) := by decide +kernel
theorem dX4_dropHost_72 : decode cX4_dropHost 72 = .ok (.isub, 1) := by decide +kernel
theorem dX4_dropHost_73 : decode cX4_dropHost 73 = .ok (.invokevirtual 63, 3) := by decide +kernel
theorem dX4_dropHost_76 : decode cX4_dropHost 76 = .ok (.iinc 4 1, 3) := by decide +kernel
theorem dX4_dropHost_79 : decode cX4_dropHost 79 = .ok (.goto (-74), 3) := by decide +kernel
theorem dX4_dropHost_82 : decode cX4_dropHost 82 = .ok (.aload_n 0, 1) := by decide +kernel
theorem dX4_dropHost_83 : decode cX4_dropHost 83 = .ok (.dup, 1) := by decide +kernel
theorem dX4_dropHost_84 : decode cX4_dropHost 84 = .ok (.getfield 33, 3) := by decide +kernel
theorem dX4_dropHost_87 : decode cX4_dropHost 87 = .ok (.iconst 1, 1) := by decide +kernel
theorem dX4_dropHost_88 : decode cX4_dropHost 88 = .ok (.isub, 1) := by decide +kernel
theorem dX4_dropHost_89 : decode cX4_dropHost 89 = .ok (.putfield 33, 3) := by decide +kernel
theorem dX4_dropHost_92 : decode cX4_dropHost 92 = .ok (.iload_n 3, 1) := by decide +kernel
theorem dX4_dropHost_93 : decode cX4_dropHost 93 = .ok (.ireturn, 1) := by decide +kernel
set_option maxHeartbeats 4000000 in
set_option maxRecDepth 100000 in
theorem uX4_dropHost_76 (C : CX D [(cA, .int)] p s m args meth c A cX4_dropHost 6 RX4 (some .int)) (k5 : Int32 → Int32 → Int32 → St → Rs) (h5 : ∀ (v1 v3 v4 : Int32) (S : St), RU D (wX a cA) p l e 3 s m args below meth c A 6 (QI D (wX a cA) [(cA, .int)] A) (k5 v1 v3 v4 S) 5 [] [(0, .ref (a 1)), (1, .int v1), (2, .ref (a 7)), (3, .int v3), (4, .int v4)] S) (v1 v3 v4 : Int32) (S : St) : RU D (wX a cA) p l e 3 s m args below meth c A 6 (QI D (wX a cA) [(cA, .int)] A) (fX4_dropHost_76 k5 v1 v3 v4 S) 76 [] [(0, .ref (a 1)), (1, .int v1), (2, .ref (a 7)), (3, .int v3), (4, .int v4)] S := by
  unfold fX4_dropHost_76
  refine R_iinc (v := v4 + 1) (lv' := [(4, .int (v4 + 1)), (0, .ref (a 1)), (1, .int v1), (2, .ref (a 7)), (3, .int v3)]) C dX4_dropHost_76 4 rfl rfl (by decide) rfl ?_
  refine R_goto (tgt := 5) C dX4_dropHost_79 (by decide) ?_
  refine R_sub [1, 2, 3, 4, 0] rfl ?_
  exact h5 v1 v3 (v4 + 1) S
set_option maxHeartbeats 4000000 in
set_option maxRecDepth 100000 in
theorem uX4_dropHost_53 (C : CX D [(cA, .int)] p s m args meth c A cX4_dropHost 6 RX4 (some .int)) (k5 : Int32 → Int32 → Int32 → St → Rs) (h5 : ∀ (v1 v3 v4 : Int32) (S : St), RU D (wX a cA) p l e 3 s m args below meth c A 6 (QI D (wX a cA) [(cA, .int)] A) (k5 v1 v3 v4 S) 5 [] [(0, .ref (a 1)), (1, .int v1), (2, .ref (a 7)), (3, .int v3), (4, .int v4)] S) (v1 v3 v4 v5 : Int32) (S : St) : RU D (wX a cA) p l e 3 s m args below meth c A 6 (QI D (wX a cA) [(cA, .int)] A) (fX4_dropHost_53 k5 v1 v3 v4 v5 S) 53 [] [(0, .ref (a 1)), (1, .int v1), (2, .ref (a 7)), (3, .int v3), (4, .int v4), (5, .int v5)] S := by
  unfold fX4_dropHost_53
  refine R_iload C dX4_dropHost_53 5 rfl ?_
  refine R_iload_n C dX4_dropHost_55 rfl 1 rfl ?_
  refine R_icmp_le (tgt := 76) C dX4_dropHost_56 (by decide) ?_ ?_
  · refine R_sub [0, 1, 2, 3, 4] rfl ?_
    exact uX4_dropHost_76 C k5 h5 v1 v3 v4 S
  · refine R_aload_n C dX4_dropHost_59 rfl 0 rfl ?_
    refine R_iload C dX4_dropHost_60 4 rfl ?_
    refine R_calli (As := [.int v4]) (st := []) C (kX4_takeOff l D a cA S v4) (by decide) (by decide) wd_2_121 kwX4_takeOff 1 rfl rfl rfl rfl (Nat.le_of_ble_eq_true rfl) dX4_dropHost_62 (fun r1 S2 => ?_)
    refine R_pop C dX4_dropHost_65 rfl ?_
    refine R_aload_n C dX4_dropHost_66 rfl 0 rfl ?_
    refine R_iload C dX4_dropHost_67 4 rfl ?_
    refine R_iload C dX4_dropHost_69 5 rfl ?_
    refine R_iconst (v := (1 : Int32)) C dX4_dropHost_71 (by decide) ?_
    refine R_isub C dX4_dropHost_72 ?_
    refine R_callv (As := [.int v4, .int (v5 - (1 : Int32))]) (st := []) C (kX4_putOn l D a cA S2 v4 (v5 - (1 : Int32))) (by decide) (by decide) wd_2_122 kwX4_putOn 1 rfl rfl rfl rfl (Nat.le_of_ble_eq_true rfl) dX4_dropHost_73 (fun r3 S4 => ?_)
    refine R_sub [0, 1, 2, 3, 4] rfl ?_
    exact uX4_dropHost_76 C k5 h5 v1 v3 v4 S4
set_option maxHeartbeats 4000000 in
set_option maxRecDepth 100000 in
theorem uX4_dropHost_5_b (C : CX D [(cA, .int)] p s m args meth c A cX4_dropHost 6 RX4 (some .int)) (k5 : Int32 → Int32 → Int32 → St → Rs) (h5 : ∀ (v1 v3 v4 : Int32) (S : St), RU D (wX a cA) p l e 3 s m args below meth c A 6 (QI D (wX a cA) [(cA, .int)] A) (k5 v1 v3 v4 S) 5 [] [(0, .ref (a 1)), (1, .int v1), (2, .ref (a 7)), (3, .int v3), (4, .int v4)] S) (v1 v3 v4 : Int32) (S : St) : RU D (wX a cA) p l e 3 s m args below meth c A 6 (QI D (wX a cA) [(cA, .int)] A) (fX4_dropHost_5_b k5 v1 v3 v4 S) 5 [] [(0, .ref (a 1)), (1, .int v1), (2, .ref (a 7)), (3, .int v3), (4, .int v4)] S := by
  unfold fX4_dropHost_5_b
  refine R_iload C dX4_dropHost_5 4 rfl ?_
  refine R_aload_n C dX4_dropHost_7 rfl 0 rfl ?_
  refine gtX_X4_came C wd_1_64 dX4_dropHost_8 ?_
  refine R_icmp_ge (tgt := 82) C dX4_dropHost_11 (by decide) ?_ ?_
  · refine R_aload_n C dX4_dropHost_82 rfl 0 rfl ?_
    refine R_dup C dX4_dropHost_83 rfl ?_
    refine gtX_X4_hosts C wd_1_56 dX4_dropHost_84 ?_
    refine R_iconst (v := (1 : Int32)) C dX4_dropHost_87 (by decide) ?_
    refine R_isub C dX4_dropHost_88 ?_
    refine ptX_X4_hosts C wd_1_56 dX4_dropHost_89 ?_
    refine R_letS (fun S1 => ?_)
    refine R_iload_n C dX4_dropHost_92 rfl 3 rfl ?_
    exact R_reti C dX4_dropHost_93
  · refine R_aload_n C dX4_dropHost_14 rfl 0 rfl ?_
    refine gtX_X4_hostOf C wd_1_42 dX4_dropHost_15 ?_
    refine R_iload C dX4_dropHost_18 4 rfl ?_
    refine ldX3 C dX4_dropHost_20 ?_
    refine R_let (fun x2 => ?_)
    refine R_istore (lv' := [(5, .int x2), (0, .ref (a 1)), (1, .int v1), (2, .ref (a 7)), (3, .int v3), (4, .int v4)]) C dX4_dropHost_21 (by decide) rfl ?_
    refine R_iload C dX4_dropHost_23 0 rfl ?_
    refine R_iload_n C dX4_dropHost_25 rfl 2 rfl ?_
    refine R_icmp_ne (tgt := 53) C dX4_dropHost_26 (by decide) ?_ ?_
    · refine R_iload_n C dX4_dropHost_29 rfl 4 rfl ?_
      refine R_aload_n C dX4_dropHost_30 rfl 3 rfl ?_
      refine lnX0 C dX4_dropHost_31 ?_
      refine R_icmp_ge (tgt := 53) C dX4_dropHost_32 (by decide) ?_ ?_
      · refine R_sub [1, 2, 3, 4, 5, 0] rfl ?_
        exact uX4_dropHost_53 C k5 h5 v1 v3 v4 x2 S
      · refine R_aload_n C dX4_dropHost_35 rfl 1 rfl ?_
        refine R_iload C dX4_dropHost_36 5 rfl ?_
        refine R_calli (As := [.int v4]) (st := []) C (kX4_takeOff l D a cA S v4) (by decide) (by decide) wd_2_121 kwX4_takeOff 1 rfl rfl rfl rfl (Nat.le_of_ble_eq_true rfl) dX4_dropHost_38 (fun r3 S4 => ?_)
        refine R_pop C dX4_dropHost_41 rfl ?_
        refine R_aload_n C dX4_dropHost_42 rfl 3 rfl ?_
        refine R_iload_n C dX4_dropHost_43 rfl 4 rfl ?_
        refine R_iload C dX4_dropHost_44 5 rfl ?_
        refine svX0 C dX4_dropHost_46 ?_
        refine R_letS (fun S5 => ?_)
        refine R_iinc (v := v3 + 1) (lv' := [(3, .int (v3 + 1)), (5, .int x2), (0, .ref (a 1)), (1, .int v1), (2, .ref (a 7)), (4, .int v4)]) C dX4_dropHost_47 4 rfl rfl (by decide) rfl ?_
        refine R_goto (tgt := 76) C dX4_dropHost_50 (by decide) ?_
        refine R_sub [2, 3, 4, 0, 5] rfl ?_
        exact uX4_dropHost_76 C k5 h5 v1 (v3 + 1) v4 S5
    · refine R_sub [1, 2, 3, 4, 5, 0] rfl ?_
      exact uX4_dropHost_53 C k5 h5 v1 v3 v4 x2 S
set_option maxHeartbeats 4000000 in
set_option maxRecDepth 100000 in
theorem uX4_dropHost_5 (C : CX D [(cA, .int)] p s m args meth c A cX4_dropHost 6 RX4 (some .int)) : ∀ (n : Nat) (v1 v3 v4 : Int32) (S : St), RU D (wX a cA) p l e 3 s m args below meth c A 6 (QI D (wX a cA) [(cA, .int)] A) (fX4_dropHost_5 n v1 v3 v4 S) 5 [] [(0, .ref (a 1)), (1, .int v1), (2, .ref (a 7)), (3, .int v3), (4, .int v4)] S := by
  intro n
  induction n with
  | zero => intro v1 v3 v4 S; exact R_none
  | succ n ih => intro v1 v3 v4 S; exact uX4_dropHost_5_b C _ ih v1 v3 v4 S
set_option maxHeartbeats 4000000 in
set_option maxRecDepth 100000 in
theorem uX4_dropHost (C : CX D [(cA, .int)] p s m args meth c A cX4_dropHost 6 RX4 (some .int)) (v1 : Int32) (S : St) : RU D (wX a cA) p l e 3 s m args below meth c A 6 (QI D (wX a cA) [(cA, .int)] A) (fX4_dropHost v1 S) 0 [] [(0, .ref (a 1)), (1, .int v1), (2, .ref (a 7))] S := by
  unfold fX4_dropHost
  refine R_iconst (v := (0 : Int32)) C dX4_dropHost_0 (by decide) ?_
  refine R_istore_n (lv' := [(3, .int (0 : Int32)), (0, .ref (a 1)), (1, .int v1), (2, .ref (a 7))]) C dX4_dropHost_1 rfl (by decide) rfl ?_
  refine R_iconst (v := (0 : Int32)) C dX4_dropHost_2 (by decide) ?_
  refine R_istore (lv' := [(4, .int (0 : Int32)), (3, .int (0 : Int32)), (0, .ref (a 1)), (1, .int v1), (2, .ref (a 7))]) C dX4_dropHost_3 (by decide) rfl ?_
  refine R_sub [2, 3, 4, 1, 0] rfl ?_
  exact uX4_dropHost_5 C FU v1 (0 : Int32) (0 : Int32) S
set_option maxHeartbeats 4000000 in
set_option maxRecDepth 100000 in
theorem kX4_dropHost (l : Launch) (D : va_G) (a : Nat → Nat) (cA : ClassId) (S : St) (v1 : Int32) : CI l D (wX a cA) [(cA, .int)] yX4_dropHost (.code yX4_dropHost cX4_dropHost 6 (some .int)) 3 [.ref (a 1), .int v1, .ref (a 7)] (fX4_dropHost v1 S) S := CI_of rfl (Nat.le_of_ble_eq_true rfl) (fun p e s m args below meth c A C => uX4_dropHost C v1 S)
theorem dX6_less_0 : decode cX6_less 0 = .ok (.aload_n 0, 1) := by decide +kernel
theorem dX6_less_1 : decode cX6_less 1 = .ok (.getfield 23, 3) := by decide +kernel
theorem dX6_less_4 : decode cX6_less 4 = .ok (.iload_n 1, 1) := by decide +kernel
theorem dX6_less_5 : decode cX6_less 5 = .ok (.invokevirtual 114, 3) := by decide +kernel
theorem dX6_less_8 : decode cX6_less 8 = .ok (.ifCond .eq 14, 3) := by decide +kernel
theorem dX6_less_11 : decode cX6_less 11 = .ok (.aload_n 0, 1) := by decide +kernel
theorem dX6_less_12 : decode cX6_less 12 = .ok (.getfield 23, 3) := by decide +kernel
theorem dX6_less_15 : decode cX6_less 15 = .ok (.getfield 111, 3) := by decide +kernel
theorem dX6_less_18 : decode cX6_less 18 = .ok (.iconst 2, 1) := by decide +kernel
theorem dX6_less_19 : decode cX6_less 19 = .ok (.if_icmp .gt 5, 3) := by decide +kernel
theorem dX6_less_22 : decode cX6_less 22 = .ok (.iconst (-1), 1) := by decide +kernel
theorem dX6_less_23 : decode cX6_less 23 = .ok (.ireturn, 1) := by decide +kernel
theorem dX6_less_24 : decode cX6_less 24 = .ok (.aload_n 0, 1) := by decide +kernel
theorem dX6_less_25 : decode cX6_less 25 = .ok (.getfield 23, 3) := by decide +kernel
theorem dX6_less_28 : decode cX6_less 28 = .ok (.iload_n 1, 1) := by decide +kernel
theorem dX6_less_29 : decode cX6_less 29 = .ok (.aload_n 0, 1) := by decide +kernel
theorem dX6_less_30 : decode cX6_less 30 = .ok (.getfield 64, 3) := by decide +kernel
theorem dX6_less_33 : decode cX6_less 33 = .ok (.invokevirtual 117, 3) := by decide +kernel
theorem dX6_less_36 : decode cX6_less 36 = .ok (.istore_n 2, 1) := by decide +kernel
theorem dX6_less_37 : decode cX6_less 37 = .ok (.iconst 0, 1) := by decide +kernel
theorem dX6_less_38 : decode cX6_less 38 = .ok (.istore_n 3, 1) := by decide +kernel
theorem dX6_less_39 : decode cX6_less 39 = .ok (.iload_n 3, 1) := by decide +kernel
theorem dX6_less_40 : decode cX6_less 40 = .ok (.iload_n 2, 1) := by decide +kernel
theorem dX6_less_41 : decode cX6_less 41 = .ok (.if_icmp .ge 32, 3) := by decide +kernel
theorem dX6_less_44 : decode cX6_less 44 = .ok (.iload_n 3, 1) := by decide +kernel
theorem dX6_less_45 : decode cX6_less 45 = .ok (.aload_n 0, 1) := by decide +kernel
theorem dX6_less_46 : decode cX6_less 46 = .ok (.getfield 64, 3) := by decide +kernel
theorem dX6_less_49 : decode cX6_less 49 = .ok (.arraylength, 1) := by decide +kernel
theorem dX6_less_50 : decode cX6_less 50 = .ok (.if_icmp .ge 23, 3) := by decide +kernel
theorem dX6_less_53 : decode cX6_less 53 = .ok (.aload_n 0, 1) := by decide +kernel
theorem dX6_less_54 : decode cX6_less 54 = .ok (.getfield 32, 3) := by decide +kernel
theorem dX6_less_57 : decode cX6_less 57 = .ok (.aload_n 0, 1) := by decide +kernel
theorem dX6_less_58 : decode cX6_less 58 = .ok (.getfield 64, 3) := by decide +kernel
theorem dX6_less_61 : decode cX6_less 61 = .ok (.iload_n 3, 1) := by decide +kernel
theorem dX6_less_62 : decode cX6_less 62 = .ok (.iaload, 1) := by decide +kernel
theorem dX6_less_63 : decode cX6_less 63 = .ok (.invokevirtual 79, 3) := by decide +kernel
theorem dX6_less_66 : decode cX6_less 66 = .ok (.pop, 1) := by decide +kernel
theorem dX6_less_67 : decode cX6_less 67 = .ok (.iinc 3 1, 3) := by decide +kernel
theorem dX6_less_70 : decode cX6_less 70 = .ok (.goto (-31), 3) := by decide +kernel
theorem dX6_less_73 : decode cX6_less 73 = .ok (.iload_n 2, 1) := by decide +kernel
theorem dX6_less_74 : decode cX6_less 74 = .ok (.ireturn, 1) := by decide +kernel
set_option maxHeartbeats 4000000 in
set_option maxRecDepth 100000 in
theorem uX6_less_22 (C : CX D [(cA, .int)] p s m args meth c A cX6_less 4 RX6 (some .int)) (S : St) : RU D (wX a cA) p l e 6 s m args below meth c A 4 (QI D (wX a cA) [(cA, .int)] A) (fX6_less_22 S) 22 [] [] S := by
  unfold fX6_less_22
  refine R_iconst (v := (-1 : Int32)) C dX6_less_22 (by decide) ?_
  exact R_reti C dX6_less_23
set_option maxHeartbeats 4000000 in
set_option maxRecDepth 100000 in
theorem uX6_less_73 (C : CX D [(cA, .int)] p s m args meth c A cX6_less 4 RX6 (some .int)) (v2 : Int32) (S : St) : RU D (wX a cA) p l e 6 s m args below meth c A 4 (QI D (wX a cA) [(cA, .int)] A) (fX6_less_73 v2 S) 73 [] [(2, .int v2)] S := by
  unfold fX6_less_73
  refine R_iload_n C dX6_less_73 rfl 0 rfl ?_
  exact R_reti C dX6_less_74
set_option maxHeartbeats 4000000 in
set_option maxRecDepth 100000 in
theorem uX6_less_39_b (C : CX D [(cA, .int)] p s m args meth c A cX6_less 4 RX6 (some .int)) (k39 : Int32 → Int32 → St → Rs) (h39 : ∀ (v2 v3 : Int32) (S : St), RU D (wX a cA) p l e 6 s m args below meth c A 4 (QI D (wX a cA) [(cA, .int)] A) (k39 v2 v3 S) 39 [] [(0, .ref (a 0)), (2, .int v2), (3, .int v3)] S) (v2 v3 : Int32) (S : St) : RU D (wX a cA) p l e 6 s m args below meth c A 4 (QI D (wX a cA) [(cA, .int)] A) (fX6_less_39_b k39 v2 v3 S) 39 [] [(0, .ref (a 0)), (2, .int v2), (3, .int v3)] S := by
  unfold fX6_less_39_b
  refine R_iload_n C dX6_less_39 rfl 2 rfl ?_
  refine R_iload_n C dX6_less_40 rfl 1 rfl ?_
  refine R_icmp_ge (tgt := 73) C dX6_less_41 (by decide) ?_ ?_
  · refine R_sub [1] rfl ?_
    exact uX6_less_73 C v2 S
  · refine R_iload_n C dX6_less_44 rfl 2 rfl ?_
    refine R_aload_n C dX6_less_45 rfl 0 rfl ?_
    refine gtX_X6_waiting C wd_1_211 dX6_less_46 ?_
    refine lnX0 C dX6_less_49 ?_
    refine R_icmp_ge (tgt := 73) C dX6_less_50 (by decide) ?_ ?_
    · refine R_sub [1] rfl ?_
      exact uX6_less_73 C v2 S
    · refine R_aload_n C dX6_less_53 rfl 0 rfl ?_
      refine gtX_X6_dealing C wd_1_206 dX6_less_54 ?_
      refine R_aload_n C dX6_less_57 rfl 0 rfl ?_
      refine gtX_X6_waiting C wd_1_211 dX6_less_58 ?_
      refine R_iload_n C dX6_less_61 rfl 2 rfl ?_
      refine ldX0 C dX6_less_62 ?_
      refine R_calli (As := [.int (S.2 0 (ix v3))]) (st := []) C (kX1_dealLine l D a cA S (S.2 0 (ix v3))) (by decide) (by decide) wd_2_4 kwX1_dealLine 2 rfl rfl rfl rfl (Nat.le_of_ble_eq_true rfl) dX6_less_63 (fun r1 S2 => ?_)
      refine R_pop C dX6_less_66 rfl ?_
      refine R_iinc (v := v3 + 1) (lv' := [(3, .int (v3 + 1)), (0, .ref (a 0)), (2, .int v2)]) C dX6_less_67 2 rfl rfl (by decide) rfl ?_
      refine R_goto (tgt := 39) C dX6_less_70 (by decide) ?_
      refine R_sub [1, 2, 0] rfl ?_
      exact h39 v2 (v3 + 1) S2
set_option maxHeartbeats 4000000 in
set_option maxRecDepth 100000 in
theorem uX6_less_39 (C : CX D [(cA, .int)] p s m args meth c A cX6_less 4 RX6 (some .int)) : ∀ (n : Nat) (v2 v3 : Int32) (S : St), RU D (wX a cA) p l e 6 s m args below meth c A 4 (QI D (wX a cA) [(cA, .int)] A) (fX6_less_39 n v2 v3 S) 39 [] [(0, .ref (a 0)), (2, .int v2), (3, .int v3)] S := by
  intro n
  induction n with
  | zero => intro v2 v3 S; exact R_none
  | succ n ih => intro v2 v3 S; exact uX6_less_39_b C _ ih v2 v3 S
set_option maxHeartbeats 4000000 in
set_option maxRecDepth 100000 in
theorem uX6_less (C : CX D [(cA, .int)] p s m args meth c A cX6_less 4 RX6 (some .int)) (v1 : Int32) (S : St) : RU D (wX a cA) p l e 6 s m args below meth c A 4 (QI D (wX a cA) [(cA, .int)] A) (fX6_less v1 S) 0 [] [(0, .ref (a 0)), (1, .int v1)] S := by
  unfold fX6_less
  refine R_aload_n C dX6_less_0 rfl 0 rfl ?_
  refine gtX_X6_net C wd_1_205 dX6_less_1 ?_
  refine R_iload_n C dX6_less_4 rfl 1 rfl ?_
  refine R_calli (As := [.int v1]) (st := []) C (kX4_hasHost l D a cA S v1) (by decide) (by decide) wd_2_116 kwX4_hasHost 1 rfl rfl rfl rfl (Nat.le_of_ble_eq_true rfl) dX6_less_5 (fun r1 S2 => ?_)
  refine R_if_eq (tgt := 22) C dX6_less_8 (by decide) ?_ ?_
  · refine R_sub [] rfl ?_
    exact uX6_less_22 C S2
  · refine R_aload_n C dX6_less_11 rfl 0 rfl ?_
    refine gtX_X6_net C wd_1_205 dX6_less_12 ?_
    refine gtX_X4_hosts C wd_1_61 dX6_less_15 ?_
    refine R_iconst (v := (2 : Int32)) C dX6_less_18 (by decide) ?_
    refine R_icmp_gt (tgt := 24) C dX6_less_19 (by decide) ?_ ?_
    · refine R_aload_n C dX6_less_24 rfl 0 rfl ?_
      refine gtX_X6_net C wd_1_205 dX6_less_25 ?_
      refine R_iload_n C dX6_less_28 rfl 1 rfl ?_
      refine R_aload_n C dX6_less_29 rfl 0 rfl ?_
      refine gtX_X6_waiting C wd_1_211 dX6_less_30 ?_
      refine R_calli (As := [.int v1, .ref (a 7)]) (st := []) C (kX4_dropHost l D a cA S2 v1) (by decide) (by decide) wd_2_117 kwX4_dropHost 1 rfl rfl rfl rfl (Nat.le_of_ble_eq_true rfl) dX6_less_33 (fun r3 S4 => ?_)
      refine R_istore_n (lv' := [(2, .int r3), (0, .ref (a 0)), (1, .int v1)]) C dX6_less_36 rfl (by decide) rfl ?_
      refine R_iconst (v := (0 : Int32)) C dX6_less_37 (by decide) ?_
      refine R_istore_n (lv' := [(3, .int (0 : Int32)), (2, .int r3), (0, .ref (a 0)), (1, .int v1)]) C dX6_less_38 rfl (by decide) rfl ?_
      refine R_sub [2, 1, 0] rfl ?_
      exact uX6_less_39 C FU r3 (0 : Int32) S4
    · refine R_sub [] rfl ?_
      exact uX6_less_22 C S2
set_option maxHeartbeats 4000000 in
set_option maxRecDepth 100000 in
theorem kX6_less (l : Launch) (D : va_G) (a : Nat → Nat) (cA : ClassId) (S : St) (v1 : Int32) : CI l D (wX a cA) [(cA, .int)] yX6_less (.code yX6_less cX6_less 4 (some .int)) 6 [.ref (a 0), .int v1] (fX6_less v1 S) S := CI_of rfl (Nat.le_of_ble_eq_true rfl) (fun p e s m args below meth c A C => uX6_less C v1 S)
theorem dX6_host_0 : decode cX6_host 0 = .ok (.aload_n 0, 1) := by decide +kernel
theorem dX6_host_1 : decode cX6_host 1 = .ok (.getfield 23, 3) := by decide +kernel
theorem dX6_host_4 : decode cX6_host 4 = .ok (.iload_n 1, 1) := by decide +kernel
theorem dX6_host_5 : decode cX6_host 5 = .ok (.invokevirtual 121, 3) := by decide +kernel
theorem dX6_host_8 : decode cX6_host 8 = .ok (.ifCond .eq 15, 3) := by decide +kernel
theorem dX6_host_11 : decode cX6_host 11 = .ok (.aload_n 0, 1) := by decide +kernel
theorem dX6_host_12 : decode cX6_host 12 = .ok (.getfield 23, 3) := by decide +kernel
theorem dX6_host_15 : decode cX6_host 15 = .ok (.getfield 124, 3) := by decide +kernel
theorem dX6_host_18 : decode cX6_host 18 = .ok (.iload_n 1, 1) := by decide +kernel
theorem dX6_host_19 : decode cX6_host 19 = .ok (.iaload, 1) := by decide +kernel
theorem dX6_host_20 : decode cX6_host 20 = .ok (.goto 4, 3) := by decide +kernel
theorem dX6_host_23 : decode cX6_host 23 = .ok (.iconst (-1), 1) := by decide +kernel
theorem dX6_host_24 : decode cX6_host 24 = .ok (.ireturn, 1) := by decide +kernel
set_option maxHeartbeats 4000000 in
set_option maxRecDepth 100000 in
theorem uX6_host_24 (C : CX D [(cA, .int)] p s m args meth c A cX6_host 2 RX6 (some .int)) (t0 : Int32) (S : St) : RU D (wX a cA) p l e 2 s m args below meth c A 2 (QI D (wX a cA) [(cA, .int)] A) (fX6_host_24 t0 S) 24 [.int t0] [] S := by
  unfold fX6_host_24
  exact R_reti C dX6_host_24
set_option maxHeartbeats 4000000 in
set_option maxRecDepth 100000 in
theorem uX6_host (C : CX D [(cA, .int)] p s m args meth c A cX6_host 2 RX6 (some .int)) (v1 : Int32) (S : St) : RU D (wX a cA) p l e 2 s m args below meth c A 2 (QI D (wX a cA) [(cA, .int)] A) (fX6_host v1 S) 0 [] [(0, .ref (a 0)), (1, .int v1)] S := by
  unfold fX6_host
  refine R_aload_n C dX6_host_0 rfl 0 rfl ?_
  refine gtX_X6_net C wd_1_205 dX6_host_1 ?_
  refine R_iload_n C dX6_host_4 rfl 1 rfl ?_
  refine R_calli (As := [.int v1]) (st := []) C (kX4_isLive l D a cA S v1) (by decide) (by decide) wd_2_127 kwX4_isLive 1 rfl rfl rfl rfl (Nat.le_of_ble_eq_true rfl) dX6_host_5 (fun r1 S2 => ?_)
  refine R_if_eq (tgt := 23) C dX6_host_8 (by decide) ?_ ?_
  · refine R_iconst (v := (-1 : Int32)) C dX6_host_23 (by decide) ?_
    refine R_sub [] rfl ?_
    exact uX6_host_24 C (-1 : Int32) S2
  · refine R_aload_n C dX6_host_11 rfl 0 rfl ?_
    refine gtX_X6_net C wd_1_205 dX6_host_12 ?_
    refine gtX_X4_hostOf C wd_1_44 dX6_host_15 ?_
    refine R_iload_n C dX6_host_18 rfl 1 rfl ?_
    refine ldX3 C dX6_host_19 ?_
    refine R_goto (tgt := 24) C dX6_host_20 (by decide) ?_
    refine R_sub [] rfl ?_
    exact uX6_host_24 C (S2.2 3 (ix v1)) S2
set_option maxHeartbeats 4000000 in
set_option maxRecDepth 100000 in
theorem kX6_host (l : Launch) (D : va_G) (a : Nat → Nat) (cA : ClassId) (S : St) (v1 : Int32) : CI l D (wX a cA) [(cA, .int)] yX6_host (.code yX6_host cX6_host 2 (some .int)) 2 [.ref (a 0), .int v1] (fX6_host v1 S) S := CI_of rfl (Nat.le_of_ble_eq_true rfl) (fun p e s m args below meth c A C => uX6_host C v1 S)
theorem dX6_load_0 : decode cX6_load 0 = .ok (.aload_n 0, 1) := by decide +kernel
theorem dX6_load_1 : decode cX6_load 1 = .ok (.getfield 23, 3) := by decide +kernel
theorem dX6_load_4 : decode cX6_load 4 = .ok (.iload_n 1, 1) := by decide +kernel
theorem dX6_load_5 : decode cX6_load 5 = .ok (.invokevirtual 114, 3) := by decide +kernel
theorem dX6_load_8 : decode cX6_load 8 = .ok (.ifCond .eq 15, 3) := by decide +kernel
theorem dX6_load_11 : decode cX6_load 11 = .ok (.aload_n 0, 1) := by decide +kernel
theorem dX6_load_12 : decode cX6_load 12 = .ok (.getfield 23, 3) := by decide +kernel
theorem dX6_load_15 : decode cX6_load 15 = .ok (.getfield 127, 3) := by decide +kernel
theorem dX6_load_18 : decode cX6_load 18 = .ok (.iload_n 1, 1) := by decide +kernel
theorem dX6_load_19 : decode cX6_load 19 = .ok (.iaload, 1) := by decide +kernel
theorem dX6_load_20 : decode cX6_load 20 = .ok (.goto 4, 3) := by decide +kernel
theorem dX6_load_23 : decode cX6_load 23 = .ok (.iconst (-1), 1) := by decide +kernel
theorem dX6_load_24 : decode cX6_load 24 = .ok (.ireturn, 1) := by decide +kernel
set_option maxHeartbeats 4000000 in
set_option maxRecDepth 100000 in
theorem uX6_load_24 (C : CX D [(cA, .int)] p s m args meth c A cX6_load 2 RX6 (some .int)) (t0 : Int32) (S : St) : RU D (wX a cA) p l e 2 s m args below meth c A 2 (QI D (wX a cA) [(cA, .int)] A) (fX6_load_24 t0 S) 24 [.int t0] [] S := by
  unfold fX6_load_24
  exact R_reti C dX6_load_24
set_option maxHeartbeats 4000000 in
set_option maxRecDepth 100000 in
theorem uX6_load (C : CX D [(cA, .int)] p s m args meth c A cX6_load 2 RX6 (some .int)) (v1 : Int32) (S : St) : RU D (wX a cA) p l e 2 s m args below meth c A 2 (QI D (wX a cA) [(cA, .int)] A) (fX6_load v1 S) 0 [] [(0, .ref (a 0)), (1, .int v1)] S := by
  unfold fX6_load
  refine R_aload_n C dX6_load_0 rfl 0 rfl ?_
  refine gtX_X6_net C wd_1_205 dX6_load_1 ?_
  refine R_iload_n C dX6_load_4 rfl 1 rfl ?_
  refine R_calli (As := [.int v1]) (st := []) C (kX4_hasHost l D a cA S v1) (by decide) (by decide) wd_2_116 kwX4_hasHost 1 rfl rfl rfl rfl (Nat.le_of_ble_eq_true rfl) dX6_load_5 (fun r1 S2 => ?_)
  refine R_if_eq (tgt := 23) C dX6_load_8 (by decide) ?_ ?_
  · refine R_iconst (v := (-1 : Int32)) C dX6_load_23 (by decide) ?_
    refine R_sub [] rfl ?_
    exact uX6_load_24 C (-1 : Int32) S2
  · refine R_aload_n C dX6_load_11 rfl 0 rfl ?_
    refine gtX_X6_net C wd_1_205 dX6_load_12 ?_
    refine gtX_X4_loads C wd_1_48 dX6_load_15 ?_
    refine R_iload_n C dX6_load_18 rfl 1 rfl ?_
    refine ldX4 C dX6_load_19 ?_
    refine R_goto (tgt := 24) C dX6_load_20 (by decide) ?_
    refine R_sub [] rfl ?_
    exact uX6_load_24 C (S2.2 4 (ix v1)) S2
set_option maxHeartbeats 4000000 in
set_option maxRecDepth 100000 in
theorem kX6_load (l : Launch) (D : va_G) (a : Nat → Nat) (cA : ClassId) (S : St) (v1 : Int32) : CI l D (wX a cA) [(cA, .int)] yX6_load (.code yX6_load cX6_load 2 (some .int)) 2 [.ref (a 0), .int v1] (fX6_load v1 S) S := CI_of rfl (Nat.le_of_ble_eq_true rfl) (fun p e s m args below meth c A C => uX6_load C v1 S)
theorem dX6_copies_0 : decode cX6_copies 0 = .ok (.iload_n 1, 1) := by decide +kernel
theorem dX6_copies_1 : decode cX6_copies 1 = .ok (.invokestatic 68, 3) := by decide +kernel
theorem dX6_copies_4 : decode cX6_copies 4 = .ok (.ifCond .eq 15, 3) := by decide +kernel
theorem dX6_copies_7 : decode cX6_copies 7 = .ok (.aload_n 0, 1) := by decide +kernel
theorem dX6_copies_8 : decode cX6_copies 8 = .ok (.getfield 23, 3) := by decide +kernel
theorem dX6_copies_11 : decode cX6_copies 11 = .ok (.getfield 130, 3) := by decide +kernel
theorem dX6_copies_14 : decode cX6_copies 14 = .ok (.iload_n 1, 1) := by decide +kernel
theorem dX6_copies_15 : decode cX6_copies 15 = .ok (.iaload, 1) := by decide +kernel
theorem dX6_copies_16 : decode cX6_copies 16 = .ok (.goto 4, 3) := by decide +kernel
theorem dX6_copies_19 : decode cX6_copies 19 = .ok (.iconst (-1), 1) := by decide +kernel
theorem dX6_copies_20 : decode cX6_copies 20 = .ok (.ireturn, 1) := by decide +kernel
set_option maxHeartbeats 4000000 in
set_option maxRecDepth 100000 in
theorem uX6_copies_20 (C : CX D [(cA, .int)] p s m args meth c A cX6_copies 2 RX6 (some .int)) (t0 : Int32) (S : St) : RU D (wX a cA) p l e 2 s m args below meth c A 2 (QI D (wX a cA) [(cA, .int)] A) (fX6_copies_20 t0 S) 20 [.int t0] [] S := by
  unfold fX6_copies_20
  exact R_reti C dX6_copies_20
set_option maxHeartbeats 4000000 in
set_option maxRecDepth 100000 in
theorem uX6_copies (C : CX D [(cA, .int)] p s m args meth c A cX6_copies 2 RX6 (some .int)) (v1 : Int32) (S : St) : RU D (wX a cA) p l e 2 s m args below meth c A 2 (QI D (wX a cA) [(cA, .int)] A) (fX6_copies v1 S) 0 [] [(0, .ref (a 0)), (1, .int v1)] S := by
  unfold fX6_copies
  refine R_iload_n C dX6_copies_0 rfl 1 rfl ?_
  refine R_calls (As := [.int v1]) (st := []) C (kX6_isPoint l D a cA S v1) (by decide) (by decide) wd_1_237 kwX6_isPoint rfl rfl (Nat.le_of_ble_eq_true rfl) dX6_copies_1 (fun r1 S2 => ?_)
  refine R_if_eq (tgt := 19) C dX6_copies_4 (by decide) ?_ ?_
  · refine R_iconst (v := (-1 : Int32)) C dX6_copies_19 (by decide) ?_
    refine R_sub [] rfl ?_
    exact uX6_copies_20 C (-1 : Int32) S2
  · refine R_aload_n C dX6_copies_7 rfl 0 rfl ?_
    refine gtX_X6_net C wd_1_205 dX6_copies_8 ?_
    refine gtX_X4_copyBits C wd_1_54 dX6_copies_11 ?_
    refine R_iload_n C dX6_copies_14 rfl 1 rfl ?_
    refine ldX6 C dX6_copies_15 ?_
    refine R_goto (tgt := 20) C dX6_copies_16 (by decide) ?_
    refine R_sub [] rfl ?_
    exact uX6_copies_20 C (S2.2 6 (ix v1)) S2
set_option maxHeartbeats 4000000 in
set_option maxRecDepth 100000 in
theorem kX6_copies (l : Launch) (D : va_G) (a : Nat → Nat) (cA : ClassId) (S : St) (v1 : Int32) : CI l D (wX a cA) [(cA, .int)] yX6_copies (.code yX6_copies cX6_copies 2 (some .int)) 2 [.ref (a 0), .int v1] (fX6_copies v1 S) S := CI_of rfl (Nat.le_of_ble_eq_true rfl) (fun p e s m args below meth c A C => uX6_copies C v1 S)
theorem dX6_all_0 : decode cX6_all 0 = .ok (.aload_n 0, 1) := by decide +kernel
theorem dX6_all_1 : decode cX6_all 1 = .ok (.getfield 23, 3) := by decide +kernel
theorem dX6_all_4 : decode cX6_all 4 = .ok (.getfield 133, 3) := by decide +kernel
theorem dX6_all_7 : decode cX6_all 7 = .ok (.ireturn, 1) := by decide +kernel
set_option maxHeartbeats 4000000 in
set_option maxRecDepth 100000 in
theorem uX6_all (C : CX D [(cA, .int)] p s m args meth c A cX6_all 1 RX6 (some .int)) (S : St) : RU D (wX a cA) p l e 1 s m args below meth c A 1 (QI D (wX a cA) [(cA, .int)] A) (fX6_all S) 0 [] [(0, .ref (a 0))] S := by
  unfold fX6_all
  refine R_aload_n C dX6_all_0 rfl 0 rfl ?_
  refine gtX_X6_net C wd_1_205 dX6_all_1 ?_
  refine gtX_X4_allCopies C wd_1_72 dX6_all_4 ?_
  exact R_reti C dX6_all_7
set_option maxHeartbeats 4000000 in
set_option maxRecDepth 100000 in
theorem kX6_all (l : Launch) (D : va_G) (a : Nat → Nat) (cA : ClassId) (S : St) : CI l D (wX a cA) [(cA, .int)] yX6_all (.code yX6_all cX6_all 1 (some .int)) 1 [.ref (a 0)] (fX6_all S) S := CI_of rfl (Nat.le_of_ble_eq_true rfl) (fun p e s m args below meth c A C => uX6_all C S)
theorem dX6_degree_0 : decode cX6_degree 0 = .ok (.iload_n 1, 1) := by decide +kernel
theorem dX6_degree_1 : decode cX6_degree 1 = .ok (.invokestatic 68, 3) := by decide +kernel
theorem dX6_degree_4 : decode cX6_degree 4 = .ok (.ifCond .eq 15, 3) := by decide +kernel
theorem dX6_degree_7 : decode cX6_degree 7 = .ok (.aload_n 0, 1) := by decide +kernel
theorem dX6_degree_8 : decode cX6_degree 8 = .ok (.getfield 23, 3) := by decide +kernel
theorem dX6_degree_11 : decode cX6_degree 11 = .ok (.getfield 136, 3) := by decide +kernel
theorem dX6_degree_14 : decode cX6_degree 14 = .ok (.iload_n 1, 1) := by decide +kernel
theorem dX6_degree_15 : decode cX6_degree 15 = .ok (.iaload, 1) := by decide +kernel
theorem dX6_degree_16 : decode cX6_degree 16 = .ok (.goto 4, 3) := by decide +kernel
theorem dX6_degree_19 : decode cX6_degree 19 = .ok (.iconst (-1), 1) := by decide +kernel
theorem dX6_degree_20 : decode cX6_degree 20 = .ok (.ireturn, 1) := by decide +kernel
set_option maxHeartbeats 4000000 in
set_option maxRecDepth 100000 in
theorem uX6_degree_20 (C : CX D [(cA, .int)] p s m args meth c A cX6_degree 2 RX6 (some .int)) (t0 : Int32) (S : St) : RU D (wX a cA) p l e 2 s m args below meth c A 2 (QI D (wX a cA) [(cA, .int)] A) (fX6_degree_20 t0 S) 20 [.int t0] [] S := by
  unfold fX6_degree_20
  exact R_reti C dX6_degree_20
set_option maxHeartbeats 4000000 in
set_option maxRecDepth 100000 in
theorem uX6_degree (C : CX D [(cA, .int)] p s m args meth c A cX6_degree 2 RX6 (some .int)) (v1 : Int32) (S : St) : RU D (wX a cA) p l e 2 s m args below meth c A 2 (QI D (wX a cA) [(cA, .int)] A) (fX6_degree v1 S) 0 [] [(0, .ref (a 0)), (1, .int v1)] S := by
  unfold fX6_degree
  refine R_iload_n C dX6_degree_0 rfl 1 rfl ?_
  refine R_calls (As := [.int v1]) (st := []) C (kX6_isPoint l D a cA S v1) (by decide) (by decide) wd_1_237 kwX6_isPoint rfl rfl (Nat.le_of_ble_eq_true rfl) dX6_degree_1 (fun r1 S2 => ?_)
  refine R_if_eq (tgt := 19) C dX6_degree_4 (by decide) ?_ ?_
  · refine R_iconst (v := (-1 : Int32)) C dX6_degree_19 (by decide) ?_
    refine R_sub [] rfl ?_
    exact uX6_degree_20 C (-1 : Int32) S2
  · refine R_aload_n C dX6_degree_7 rfl 0 rfl ?_
    refine gtX_X6_net C wd_1_205 dX6_degree_8 ?_
    refine gtX_X4_degrees C wd_1_52 dX6_degree_11 ?_
    refine R_iload_n C dX6_degree_14 rfl 1 rfl ?_
    refine ldX5 C dX6_degree_15 ?_
    refine R_goto (tgt := 20) C dX6_degree_16 (by decide) ?_
    refine R_sub [] rfl ?_
    exact uX6_degree_20 C (S2.2 5 (ix v1)) S2
set_option maxHeartbeats 4000000 in
set_option maxRecDepth 100000 in
theorem kX6_degree (l : Launch) (D : va_G) (a : Nat → Nat) (cA : ClassId) (S : St) (v1 : Int32) : CI l D (wX a cA) [(cA, .int)] yX6_degree (.code yX6_degree cX6_degree 2 (some .int)) 2 [.ref (a 0), .int v1] (fX6_degree v1 S) S := CI_of rfl (Nat.le_of_ble_eq_true rfl) (fun p e s m args below meth c A C => uX6_degree C v1 S)
theorem dX6_room_0 : decode cX6_room 0 = .ok (.aload_n 0, 1) := by decide +kernel
theorem dX6_room_1 : decode cX6_room 1 = .ok (.getfield 32, 3) := by decide +kernel
theorem dX6_room_4 : decode cX6_room 4 = .ok (.aload_n 0, 1) := by decide +kernel
theorem dX6_room_5 : decode cX6_room 5 = .ok (.getfield 23, 3) := by decide +kernel
theorem dX6_room_8 : decode cX6_room 8 = .ok (.getfield 139, 3) := by decide +kernel
theorem dX6_room_11 : decode cX6_room 11 = .ok (.invokevirtual 142, 3) := by decide +kernel
theorem dX6_room_14 : decode cX6_room 14 = .ok (.ireturn, 1) := by decide +kernel
set_option maxHeartbeats 4000000 in
set_option maxRecDepth 100000 in
theorem uX6_room (C : CX D [(cA, .int)] p s m args meth c A cX6_room 1 RX6 (some .int)) (S : St) : RU D (wX a cA) p l e 2 s m args below meth c A 1 (QI D (wX a cA) [(cA, .int)] A) (fX6_room S) 0 [] [(0, .ref (a 0))] S := by
  unfold fX6_room
  refine R_aload_n C dX6_room_0 rfl 0 rfl ?_
  refine gtX_X6_dealing C wd_1_206 dX6_room_1 ?_
  refine R_aload_n C dX6_room_4 rfl 0 rfl ?_
  refine gtX_X6_net C wd_1_205 dX6_room_5 ?_
  refine gtX_X4_live C wd_1_69 dX6_room_8 ?_
  refine R_calli (As := [.int (S.1 4)]) (st := []) C (kX1_roomFor l D a cA S (S.1 4)) (by decide) (by decide) wd_2_88 kwX1_roomFor 2 rfl rfl rfl rfl (Nat.le_of_ble_eq_true rfl) dX6_room_11 (fun r1 S2 => ?_)
  exact R_reti C dX6_room_14
set_option maxHeartbeats 4000000 in
set_option maxRecDepth 100000 in
theorem kX6_room (l : Launch) (D : va_G) (a : Nat → Nat) (cA : ClassId) (S : St) : CI l D (wX a cA) [(cA, .int)] yX6_room (.code yX6_room cX6_room 1 (some .int)) 2 [.ref (a 0)] (fX6_room S) S := CI_of rfl (Nat.le_of_ble_eq_true rfl) (fun p e s m args below meth c A C => uX6_room C S)
theorem dX0_collectLines_0 : decode cX0_collectLines 0 = .ok (.aload_n 0, 1) := by decide +kernel
theorem dX0_collectLines_1 : decode cX0_collectLines 1 = .ok (.iconst 0, 1) := by decide +kernel
theorem dX0_collectLines_2 : decode cX0_collectLines 2 = .ok (.putfield 32, 3) := by decide +kernel
theorem dX0_collectLines_5 : decode cX0_collectLines 5 = .ok (.iconst 0, 1) := by decide +kernel
theorem dX0_collectLines_6 : decode cX0_collectLines 6 = .ok (.istore_n 1, 1) := by decide +kernel
theorem dX0_collectLines_7 : decode cX0_collectLines 7 = .ok (.iload_n 1, 1) := by decide +kernel
theorem dX0_collectLines_8 : decode cX0_collectLines 8 = .ok (.aload_n 0, 1) := by decide +kernel
theorem dX0_collectLines_9 : decode cX0_collectLines 9 = .ok (.getfield 21, 3) := by decide +kernel
theorem dX0_collectLines_12 : decode cX0_collectLines 12 = .ok (.getfield 42, 3) := by decide +kernel
theorem dX0_collectLines_15 : decode cX0_collectLines 15 = .ok (.if_icmp .ge 52, 3) := by decide +kernel
theorem dX0_collectLines_18 : decode cX0_collectLines 18 = .ok (.aload_n 0, 1) := by decide +kernel
theorem dX0_collectLines_19 : decode cX0_collectLines 19 = .ok (.getfield 32, 3) := by decide +kernel
theorem dX0_collectLines_22 : decode cX0_collectLines 22 = .ok (.aload_n 0, 1) := by decide +kernel
theorem dX0_collectLines_23 : decode cX0_collectLines 23 = .ok (.getfield 9, 3) := by decide +kernel
theorem dX0_collectLines_26 : decode cX0_collectLines 26 = .ok (.arraylength, 1) := by decide +kernel
theorem dX0_collectLines_27 : decode cX0_collectLines 27 = .ok (.if_icmp .ge 40, 3) := by decide +kernel
theorem dX0_collectLines_30 : decode cX0_collectLines 30 = .ok (.aload_n 0, 1) := by decide +kernel
theorem dX0_collectLines_31 : decode cX0_collectLines 31 = .ok (.getfield 21, 3) := by decide +kernel
theorem dX0_collectLines_34 : decode cX0_collectLines 34 = .ok (.iload_n 1, 1) := by decide +kernel
theorem dX0_collectLines_35 : decode cX0_collectLines 35 = .ok (.invokevirtual 47, 3) := by decide +kernel
theorem dX0_collectLines_38 : decode cX0_collectLines 38 = .ok (.ifCond .eq 23, 3) := by decide +kernel
theorem dX0_collectLines_41 : decode cX0_collectLines 41 = .ok (.aload_n 0, 1) := by decide +kernel
theorem dX0_collectLines_42 : decode cX0_collectLines 42 = .ok (.getfield 9, 3) := by decide +kernel
theorem dX0_collectLines_45 : decode cX0_collectLines 45 = .ok (.aload_n 0, 1) := by decide +kernel
theorem dX0_collectLines_46 : decode cX0_collectLines 46 = .ok (.getfield 32, 3) := by decide +kernel
theorem dX0_collectLines_49 : decode cX0_collectLines 49 = .ok (.iload_n 1, 1) := by decide +kernel
theorem dX0_collectLines_50 : decode cX0_collectLines 50 = .ok (.iastore, 1) := by decide +kernel
theorem dX0_collectLines_51 : decode cX0_collectLines 51 = .ok (.aload_n 0, 1) := by decide +kernel
theorem dX0_collectLines_52 : decode cX0_collectLines 52 = .ok (.dup, 1) := by decide +kernel
theorem dX0_collectLines_53 : decode cX0_collectLines 53 = .ok (.getfield 32, 3) := by decide +kernel
theorem dX0_collectLines_56 : decode cX0_collectLines 56 = .ok (.iconst 1, 1) := by decide +kernel
theorem dX0_collectLines_57 : decode cX0_collectLines 57 = .ok (.iadd, 1) := by decide +kernel
theorem dX0_collectLines_58 : decode cX0_collectLines 58 = .ok (.putfield 32, 3) := by decide +kernel
theorem dX0_collectLines_61 : decode cX0_collectLines 61 = .ok (.iinc 1 1, 3) := by decide +kernel
theorem dX0_collectLines_64 : decode cX0_collectLines 64 = .ok (.goto (-57), 3) := by decide +kernel
theorem dX0_collectLines_67 : decode cX0_collectLines 67 = .ok (.return_, 1) := by decide +kernel
set_option maxHeartbeats 4000000 in
set_option maxRecDepth 100000 in
theorem uX0_collectLines_67 (C : CX D [(cA, .int)] p s m args meth c A cX0_collectLines 2 RX0 none) (S : St) : RU D (wX a cA) p l e 2 s m args below meth c A 2 (QV D (wX a cA) [(cA, .int)] A) (fX0_collectLines_67 S) 67 [] [] S := by
  unfold fX0_collectLines_67
  exact R_retv C dX0_collectLines_67
set_option maxHeartbeats 4000000 in
set_option maxRecDepth 100000 in
theorem uX0_collectLines_61 (C : CX D [(cA, .int)] p s m args meth c A cX0_collectLines 2 RX0 none) (k7 : Int32 → St → Rs) (h7 : ∀ (v1 : Int32) (S : St), RU D (wX a cA) p l e 2 s m args below meth c A 2 (QV D (wX a cA) [(cA, .int)] A) (k7 v1 S) 7 [] [(0, .ref (a 4)), (1, .int v1)] S) (v1 : Int32) (S : St) : RU D (wX a cA) p l e 2 s m args below meth c A 2 (QV D (wX a cA) [(cA, .int)] A) (fX0_collectLines_61 k7 v1 S) 61 [] [(0, .ref (a 4)), (1, .int v1)] S := by
  unfold fX0_collectLines_61
  refine R_iinc (v := v1 + 1) (lv' := [(1, .int (v1 + 1)), (0, .ref (a 4))]) C dX0_collectLines_61 1 rfl rfl (by decide) rfl ?_
  refine R_goto (tgt := 7) C dX0_collectLines_64 (by decide) ?_
  refine R_sub [1, 0] rfl ?_
  exact h7 (v1 + 1) S
set_option maxHeartbeats 4000000 in
set_option maxRecDepth 100000 in
theorem uX0_collectLines_7_b (C : CX D [(cA, .int)] p s m args meth c A cX0_collectLines 2 RX0 none) (k7 : Int32 → St → Rs) (h7 : ∀ (v1 : Int32) (S : St), RU D (wX a cA) p l e 2 s m args below meth c A 2 (QV D (wX a cA) [(cA, .int)] A) (k7 v1 S) 7 [] [(0, .ref (a 4)), (1, .int v1)] S) (v1 : Int32) (S : St) : RU D (wX a cA) p l e 2 s m args below meth c A 2 (QV D (wX a cA) [(cA, .int)] A) (fX0_collectLines_7_b k7 v1 S) 7 [] [(0, .ref (a 4)), (1, .int v1)] S := by
  unfold fX0_collectLines_7_b
  refine R_iload_n C dX0_collectLines_7 rfl 1 rfl ?_
  refine R_aload_n C dX0_collectLines_8 rfl 0 rfl ?_
  refine gtX_X0_net C wd_1_149 dX0_collectLines_9 ?_
  refine gtX_X4_came C wd_1_65 dX0_collectLines_12 ?_
  refine R_icmp_ge (tgt := 67) C dX0_collectLines_15 (by decide) ?_ ?_
  · refine R_sub [] rfl ?_
    exact uX0_collectLines_67 C S
  · refine R_aload_n C dX0_collectLines_18 rfl 0 rfl ?_
    refine gtX_X0_size C wd_1_153 dX0_collectLines_19 ?_
    refine R_aload_n C dX0_collectLines_22 rfl 0 rfl ?_
    refine gtX_X0_lines C wd_1_150 dX0_collectLines_23 ?_
    refine lnX8 C dX0_collectLines_26 ?_
    refine R_icmp_ge (tgt := 67) C dX0_collectLines_27 (by decide) ?_ ?_
    · refine R_sub [] rfl ?_
      exact uX0_collectLines_67 C S
    · refine R_aload_n C dX0_collectLines_30 rfl 0 rfl ?_
      refine gtX_X0_net C wd_1_149 dX0_collectLines_31 ?_
      refine R_iload_n C dX0_collectLines_34 rfl 1 rfl ?_
      refine R_calli (As := [.int v1]) (st := []) C (kX4_isLive l D a cA S v1) (by decide) (by decide) wd_2_160 kwX4_isLive 1 rfl rfl rfl rfl (Nat.le_of_ble_eq_true rfl) dX0_collectLines_35 (fun r1 S2 => ?_)
      refine R_if_eq (tgt := 61) C dX0_collectLines_38 (by decide) ?_ ?_
      · exact uX0_collectLines_61 C k7 h7 v1 S2
      · refine R_aload_n C dX0_collectLines_41 rfl 0 rfl ?_
        refine gtX_X0_lines C wd_1_150 dX0_collectLines_42 ?_
        refine R_aload_n C dX0_collectLines_45 rfl 0 rfl ?_
        refine gtX_X0_size C wd_1_153 dX0_collectLines_46 ?_
        refine R_iload_n C dX0_collectLines_49 rfl 1 rfl ?_
        refine svX8 C dX0_collectLines_50 ?_
        refine R_letS (fun S3 => ?_)
        refine R_aload_n C dX0_collectLines_51 rfl 0 rfl ?_
        refine R_dup C dX0_collectLines_52 rfl ?_
        refine gtX_X0_size C wd_1_153 dX0_collectLines_53 ?_
        refine R_iconst (v := (1 : Int32)) C dX0_collectLines_56 (by decide) ?_
        refine R_iadd C dX0_collectLines_57 ?_
        refine ptX_X0_size C wd_1_153 dX0_collectLines_58 ?_
        refine R_letS (fun S4 => ?_)
        exact uX0_collectLines_61 C k7 h7 v1 S4
set_option maxHeartbeats 4000000 in
set_option maxRecDepth 100000 in
theorem uX0_collectLines_7 (C : CX D [(cA, .int)] p s m args meth c A cX0_collectLines 2 RX0 none) : ∀ (n : Nat) (v1 : Int32) (S : St), RU D (wX a cA) p l e 2 s m args below meth c A 2 (QV D (wX a cA) [(cA, .int)] A) (fX0_collectLines_7 n v1 S) 7 [] [(0, .ref (a 4)), (1, .int v1)] S := by
  intro n
  induction n with
  | zero => intro v1 S; exact R_none
  | succ n ih => intro v1 S; exact uX0_collectLines_7_b C _ ih v1 S
set_option maxHeartbeats 4000000 in
set_option maxRecDepth 100000 in
theorem uX0_collectLines (C : CX D [(cA, .int)] p s m args meth c A cX0_collectLines 2 RX0 none) (S : St) : RU D (wX a cA) p l e 2 s m args below meth c A 2 (QV D (wX a cA) [(cA, .int)] A) (fX0_collectLines S) 0 [] [(0, .ref (a 4))] S := by
  unfold fX0_collectLines
  refine R_aload_n C dX0_collectLines_0 rfl 0 rfl ?_
  refine R_iconst (v := (0 : Int32)) C dX0_collectLines_1 (by decide) ?_
  refine ptX_X0_size C wd_1_153 dX0_collectLines_2 ?_
  refine R_letS (fun S1 => ?_)
  refine R_iconst (v := (0 : Int32)) C dX0_collectLines_5 (by decide) ?_
  refine R_istore_n (lv' := [(1, .int (0 : Int32)), (0, .ref (a 4))]) C dX0_collectLines_6 rfl (by decide) rfl ?_
  refine R_sub [1, 0] rfl ?_
  exact uX0_collectLines_7 C FU (0 : Int32) S1
set_option maxHeartbeats 4000000 in
set_option maxRecDepth 100000 in
theorem kX0_collectLines (l : Launch) (D : va_G) (a : Nat → Nat) (cA : ClassId) (S : St) : CV l D (wX a cA) [(cA, .int)] yX0_collectLines (.code yX0_collectLines cX0_collectLines 2 none) 2 [.ref (a 4)] (fX0_collectLines S) S := CV_of rfl (Nat.le_of_ble_eq_true rfl) (fun p e s m args below meth c A C => uX0_collectLines C S)
theorem dX0_tryHost_0 : decode cX0_tryHost 0 = .ok (.aload_n 0, 1) := by decide +kernel
theorem dX0_tryHost_1 : decode cX0_tryHost 1 = .ok (.getfield 21, 3) := by decide +kernel
theorem dX0_tryHost_4 : decode cX0_tryHost 4 = .ok (.getfield 67, 3) := by decide +kernel
theorem dX0_tryHost_7 : decode cX0_tryHost 7 = .ok (.aload_n 0, 1) := by decide +kernel
theorem dX0_tryHost_8 : decode cX0_tryHost 8 = .ok (.getfield 9, 3) := by decide +kernel
theorem dX0_tryHost_11 : decode cX0_tryHost 11 = .ok (.iload_n 1, 1) := by decide +kernel
theorem dX0_tryHost_12 : decode cX0_tryHost 12 = .ok (.iaload, 1) := by decide +kernel
theorem dX0_tryHost_13 : decode cX0_tryHost 13 = .ok (.iaload, 1) := by decide +kernel
theorem dX0_tryHost_14 : decode cX0_tryHost 14 = .ok (.istore 5, 2) := by decide +kernel
theorem dX0_tryHost_16 : decode cX0_tryHost 16 = .ok (.aload_n 0, 1) := by decide +kernel
theorem dX0_tryHost_17 : decode cX0_tryHost 17 = .ok (.getfield 21, 3) := by decide +kernel
theorem dX0_tryHost_20 : decode cX0_tryHost 20 = .ok (.getfield 70, 3) := by decide +kernel
theorem dX0_tryHost_23 : decode cX0_tryHost 23 = .ok (.aload_n 0, 1) := by decide +kernel
theorem dX0_tryHost_24 : decode cX0_tryHost 24 = .ok (.getfield 9, 3) := by decide +kernel
theorem dX0_tryHost_27 : decode cX0_tryHost 27 = .ok (.iload_n 1, 1) := by decide +kernel
theorem dX0_tryHost_28 : decode cX0_tryHost 28 = .ok (.iaload, 1) := by decide +kernel
theorem dX0_tryHost_29 : decode cX0_tryHost 29 = .ok (.iaload, 1) := by decide +kernel
theorem dX0_tryHost_30 : decode cX0_tryHost 30 = .ok (.istore 6, 2) := by decide +kernel
theorem dX0_tryHost_32 : decode cX0_tryHost 32 = .ok (.aload_n 0, 1) := by decide +kernel
theorem dX0_tryHost_33 : decode cX0_tryHost 33 = .ok (.getfield 18, 3) := by decide +kernel
theorem dX0_tryHost_36 : decode cX0_tryHost 36 = .ok (.iload 5, 2) := by decide +kernel
theorem dX0_tryHost_38 : decode cX0_tryHost 38 = .ok (.iaload, 1) := by decide +kernel
theorem dX0_tryHost_39 : decode cX0_tryHost 39 = .ok (.istore 7, 2) := by decide +kernel
theorem dX0_tryHost_41 : decode cX0_tryHost 41 = .ok (.aload_n 0, 1) := by decide +kernel
theorem dX0_tryHost_42 : decode cX0_tryHost 42 = .ok (.getfield 18, 3) := by decide +kernel
theorem dX0_tryHost_45 : decode cX0_tryHost 45 = .ok (.iload 6, 2) := by decide +kernel
theorem dX0_tryHost_47 : decode cX0_tryHost 47 = .ok (.iaload, 1) := by decide +kernel
theorem dX0_tryHost_48 : decode cX0_tryHost 48 = .ok (.istore 8, 2) := by decide +kernel
theorem dX0_tryHost_50 : decode cX0_tryHost 50 = .ok (.iload 7, 2) := by decide +kernel
theorem dX0_tryHost_52 : decode cX0_tryHost 52 = .ok (.iload_n 3, 1) := by decide +kernel
theorem dX0_tryHost_53 : decode cX0_tryHost 53 = .ok (.ishr, 1) := by decide +kernel
theorem dX0_tryHost_54 : decode cX0_tryHost 54 = .ok (.iconst 1, 1) := by decide +kernel
theorem dX0_tryHost_55 : decode cX0_tryHost 55 = .ok (.iand, 1) := by decide +kernel
theorem dX0_tryHost_56 : decode cX0_tryHost 56 = .ok (.iconst 1, 1) := by decide +kernel
theorem dX0_tryHost_57 : decode cX0_tryHost 57 = .ok (.ixor, 1) := by decide +kernel
theorem dX0_tryHost_58 : decode cX0_tryHost 58 = .ok (.iload 8, 2) := by decide +kernel
theorem dX0_tryHost_60 : decode cX0_tryHost 60 = .ok (.iload_n 3, 1) := by decide +kernel
theorem dX0_tryHost_61 : decode cX0_tryHost 61 = .ok (.ishr, 1) := by decide +kernel
theorem dX0_tryHost_62 : decode cX0_tryHost 62 = .ok (.iconst 1, 1) := by decide +kernel
theorem dX0_tryHost_63 : decode cX0_tryHost 63 = .ok (.iand, 1) := by decide +kernel
theorem dX0_tryHost_64 : decode cX0_tryHost 64 = .ok (.iconst 1, 1) := by decide +kernel
theorem dX0_tryHost_65 : decode cX0_tryHost 65 = .ok (.ixor, 1) := by decide +kernel
theorem dX0_tryHost_66 : decode cX0_tryHost 66 = .ok (.iadd, 1) := by decide +kernel
theorem dX0_tryHost_67 : decode cX0_tryHost 67 = .ok (.istore 9, 2) := by decide +kernel
theorem dX0_tryHost_69 : decode cX0_tryHost 69 = .ok (.aload_n 0, 1) := by decide +kernel
theorem dX0_tryHost_70 : decode cX0_tryHost 70 = .ok (.getfield 18, 3) := by decide +kernel
theorem dX0_tryHost_73 : decode cX0_tryHost 73 = .ok (.iload 5, 2) := by decide +kernel
theorem dX0_tryHost_75 : decode cX0_tryHost 75 = .ok (.iload 7, 2) := by decide +kernel
theorem dX0_tryHost_77 : decode cX0_tryHost 77 = .ok (.iconst 1, 1) := by decide +kernel
theorem dX0_tryHost_78 : decode cX0_tryHost 78 = .ok (.iload_n 3, 1) := by decide +kernel
theorem dX0_tryHost_79 : decode cX0_tryHost 79 = .ok (.ishl, 1) := by decide +kernel
theorem dX0_tryHost_80 : decode cX0_tryHost 80 = .ok (.ior, 1) := by decide +kernel
theorem dX0_tryHost_81 : decode cX0_tryHost 81 = .ok (.iastore, 1) := by decide +kernel
theorem dX0_tryHost_82 : decode cX0_tryHost 82 = .ok (.aload_n 0, 1) := by decide +kernel
theorem dX0_tryHost_83 : decode cX0_tryHost 83 = .ok (.getfield 18, 3) := by decide +kernel
theorem dX0_tryHost_86 : decode cX0_tryHost 86 = .ok (.iload 6, 2) := by decide +kernel
theorem dX0_tryHost_88 : decode cX0_tryHost 88 = .ok (.iload 8, 2) := by decide +kernel
theorem dX0_tryHost_90 : decode cX0_tryHost 90 = .ok (.iconst 1, 1) := by decide +kernel
theorem dX0_tryHost_91 : decode cX0_tryHost 91 = .ok (.iload_n 3, 1) := by decide +kernel
theorem dX0_tryHost_92 : decode cX0_tryHost 92 = .ok (.ishl, 1) := by decide +kernel
theorem dX0_tryHost_93 : decode cX0_tryHost 93 = .ok (.ior, 1) := by decide +kernel
theorem dX0_tryHost_94 : decode cX0_tryHost 94 = .ok (.iastore, 1) := by decide +kernel
theorem dX0_tryHost_95 : decode cX0_tryHost 95 = .ok (.aload_n 0, 1) := by decide +kernel
theorem dX0_tryHost_96 : decode cX0_tryHost 96 = .ok (.getfield 15, 3) := by decide +kernel
theorem dX0_tryHost_99 : decode cX0_tryHost 99 = .ok (.iload_n 3, 1) := by decide +kernel
theorem dX0_tryHost_100 : decode cX0_tryHost 100 = .ok (.dup2, 1) := by decide +kernel
theorem dX0_tryHost_101 : decode cX0_tryHost 101 = .ok (.iaload, 1) := by decide +kernel
theorem dX0_tryHost_102 : decode cX0_tryHost 102 = .ok (.iconst 1, 1) := by decide +kernel
theorem dX0_tryHost_103 : decode cX0_tryHost 103 = .ok (.iadd, 1) := by decide +kernel
theorem dX0_tryHost_104 : decode cX0_tryHost 104 = .ok (.iastore, 1) := by decide +kernel
theorem dX0_tryHost_105 : decode cX0_tryHost 105 = .ok (.aload_n 0, 1) := by decide +kernel
theorem dX0_tryHost_106 : decode cX0_tryHost 106 = .ok (.iload_n 1, 1) := by decide +kernel
theorem dX0_tryHost_107 : decode cX0_tryHost 107 = .ok (.iconst 1, 1) := by decide +kernel
theorem dX0_tryHost_108 : decode cX0_tryHost 108 = .ok (.iadd, 1) := by decide +kernel
theorem dX0_tryHost_109 : decode cX0_tryHost 109 = .ok (.iload_n 2, 1) := by decide +kernel
theorem dX0_tryHost_110 : decode cX0_tryHost 110 = .ok (.iload 9, 2) := by decide +kernel
theorem dX0_tryHost_112 : decode cX0_tryHost 112 = .ok (.iadd, 1) := by decide +kernel
theorem dX0_tryHost_113 : decode cX0_tryHost 113 = .ok (.iload 4, 2) := by decide +kernel
theorem dX0_tryHost_115 : decode cX0_tryHost 115 = .ok (.invokevirtual 38, 3) := by decide +kernel
theorem dX0_tryHost_118 : decode cX0_tryHost 118 = .ok (.aload_n 0, 1) := by decide +kernel
theorem dX0_tryHost_119 : decode cX0_tryHost 119 = .ok (.getfield 15, 3) := by decide +kernel
theorem dX0_tryHost_122 : decode cX0_tryHost 122 = .ok (.iload_n 3, 1) := by decide +kernel
theorem dX0_tryHost_123 : decode cX0_tryHost 123 = .ok (.dup2, 1) := by decide +kernel
theorem dX0_tryHost_124 : decode cX0_tryHost 124 = .ok (.iaload, 1) := by decide +kernel
theorem dX0_tryHost_125 : decode cX0_tryHost 125 = .ok (.iconst 1, 1) := by decide +kernel
theorem dX0_tryHost_126 : decode cX0_tryHost 126 = .ok (.isub, 1) := by decide +kernel
theorem dX0_tryHost_127 : decode cX0_tryHost 127 = .ok (.iastore, 1) := by decide +kernel
theorem dX0_tryHost_128 : decode cX0_tryHost 128 = .ok (.aload_n 0, 1) := by decide +kernel
theorem dX0_tryHost_129 : decode cX0_tryHost 129 = .ok (.getfield 18, 3) := by decide +kernel
theorem dX0_tryHost_132 : decode cX0_tryHost 132 = .ok (.iload 5, 2) := by decide +kernel
theorem dX0_tryHost_134 : decode cX0_tryHost 134 = .ok (.iload 7, 2) := by decide +kernel
theorem dX0_tryHost_136 : decode cX0_tryHost 136 = .ok (.iastore, 1) := by decide +kernel
theorem dX0_tryHost_137 : decode cX0_tryHost 137 = .ok (.aload_n 0, 1) := by decide +kernel
theorem dX0_tryHost_138 : decode cX0_tryHost 138 = .ok (.getfield 18, 3) := by decide +kernel
theorem dX0_tryHost_141 : decode cX0_tryHost 141 = .ok (.iload 6, 2) := by decide +kernel
theorem dX0_tryHost_143 : decode cX0_tryHost 143 = .ok (.iload 8, 2) := by decide +kernel
theorem dX0_tryHost_145 : decode cX0_tryHost 145 = .ok (.iastore, 1) := by decide +kernel
theorem dX0_tryHost_146 : decode cX0_tryHost 146 = .ok (.return_, 1) := by decide +kernel
set_option maxHeartbeats 4000000 in
set_option maxRecDepth 100000 in
theorem uX0_tryHost {dd : Nat} (kr : Int32 → Int32 → Int32 → St → Rs) (hkr : ∀ (v1 v2 v3 : Int32) (S : St), CV l D (wX a cA) [(cA, .int)] yX0_dealFrom (.code yX0_dealFrom cX0_dealFrom 6 none) dd [.ref (a 4), .int v1, .int v2, .int v3] (kr v1 v2 v3 S) S) (C : CX D [(cA, .int)] p s m args meth c A cX0_tryHost 10 RX0 none) (v1 v2 v3 v4 : Int32) (S : St) : RU D (wX a cA) p l e (dd + 1) s m args below meth c A 10 (QV D (wX a cA) [(cA, .int)] A) (fX0_tryHost_s kr v1 v2 v3 v4 S) 0 [] [(0, .ref (a 4)), (1, .int v1), (2, .int v2), (3, .int v3), (4, .int v4)] S := by
  unfold fX0_tryHost_s
  refine R_aload_n C dX0_tryHost_0 rfl 0 rfl ?_
  refine gtX_X0_net C wd_1_149 dX0_tryHost_1 ?_
  refine gtX_X4_firstEnd C wd_1_36 dX0_tryHost_4 ?_
  refine R_aload_n C dX0_tryHost_7 rfl 0 rfl ?_
  refine gtX_X0_lines C wd_1_150 dX0_tryHost_8 ?_
  refine R_iload_n C dX0_tryHost_11 rfl 1 rfl ?_
  refine ldX8 C dX0_tryHost_12 ?_
  refine ldX1 C dX0_tryHost_13 ?_
  refine R_let (fun x1 => ?_)
  refine R_istore (lv' := [(5, .int x1), (0, .ref (a 4)), (1, .int v1), (2, .int v2), (3, .int v3), (4, .int v4)]) C dX0_tryHost_14 (by decide) rfl ?_
  refine R_aload_n C dX0_tryHost_16 rfl 1 rfl ?_
  refine gtX_X0_net C wd_1_149 dX0_tryHost_17 ?_
  refine gtX_X4_secondEnd C wd_1_41 dX0_tryHost_20 ?_
  refine R_aload_n C dX0_tryHost_23 rfl 1 rfl ?_
  refine gtX_X0_lines C wd_1_150 dX0_tryHost_24 ?_
  refine R_iload_n C dX0_tryHost_27 rfl 2 rfl ?_
  refine ldX8 C dX0_tryHost_28 ?_
  refine ldX2 C dX0_tryHost_29 ?_
  refine R_let (fun x2 => ?_)
  refine R_istore (lv' := [(6, .int x2), (5, .int x1), (0, .ref (a 4)), (1, .int v1), (2, .int v2), (3, .int v3), (4, .int v4)]) C dX0_tryHost_30 (by decide) rfl ?_
  refine R_aload_n C dX0_tryHost_32 rfl 2 rfl ?_
  refine gtX_X0_tryBits C wd_1_152 dX0_tryHost_33 ?_
  refine R_iload C dX0_tryHost_36 1 rfl ?_
  refine ldX10 C dX0_tryHost_38 ?_
  refine R_let (fun x3 => ?_)
  refine R_istore (lv' := [(7, .int x3), (6, .int x2), (5, .int x1), (0, .ref (a 4)), (1, .int v1), (2, .int v2), (3, .int v3), (4, .int v4)]) C dX0_tryHost_39 (by decide) rfl ?_
  refine R_aload_n C dX0_tryHost_41 rfl 3 rfl ?_
  refine gtX_X0_tryBits C wd_1_152 dX0_tryHost_42 ?_
  refine R_iload C dX0_tryHost_45 1 rfl ?_
  refine ldX10 C dX0_tryHost_47 ?_
  refine R_let (fun x4 => ?_)
  refine R_istore (lv' := [(8, .int x4), (7, .int x3), (6, .int x2), (5, .int x1), (0, .ref (a 4)), (1, .int v1), (2, .int v2), (3, .int v3), (4, .int v4)]) C dX0_tryHost_48 (by decide) rfl ?_
  refine R_iload C dX0_tryHost_50 1 rfl ?_
  refine R_iload_n C dX0_tryHost_52 rfl 7 rfl ?_
  refine R_ishr C dX0_tryHost_53 ?_
  refine R_iconst (v := (1 : Int32)) C dX0_tryHost_54 (by decide) ?_
  refine R_iand C dX0_tryHost_55 ?_
  refine R_iconst (v := (1 : Int32)) C dX0_tryHost_56 (by decide) ?_
  refine R_ixor C dX0_tryHost_57 ?_
  refine R_iload C dX0_tryHost_58 0 rfl ?_
  refine R_iload_n C dX0_tryHost_60 rfl 7 rfl ?_
  refine R_ishr C dX0_tryHost_61 ?_
  refine R_iconst (v := (1 : Int32)) C dX0_tryHost_62 (by decide) ?_
  refine R_iand C dX0_tryHost_63 ?_
  refine R_iconst (v := (1 : Int32)) C dX0_tryHost_64 (by decide) ?_
  refine R_ixor C dX0_tryHost_65 ?_
  refine R_iadd C dX0_tryHost_66 ?_
  refine R_let (fun x5 => ?_)
  refine R_istore (lv' := [(9, .int x5), (8, .int x4), (7, .int x3), (6, .int x2), (5, .int x1), (0, .ref (a 4)), (1, .int v1), (2, .int v2), (3, .int v3), (4, .int v4)]) C dX0_tryHost_67 (by decide) rfl ?_
  refine R_aload_n C dX0_tryHost_69 rfl 5 rfl ?_
  refine gtX_X0_tryBits C wd_1_152 dX0_tryHost_70 ?_
  refine R_iload C dX0_tryHost_73 4 rfl ?_
  refine R_iload C dX0_tryHost_75 2 rfl ?_
  refine R_iconst (v := (1 : Int32)) C dX0_tryHost_77 (by decide) ?_
  refine R_iload_n C dX0_tryHost_78 rfl 8 rfl ?_
  refine R_ishl C dX0_tryHost_79 ?_
  refine R_ior C dX0_tryHost_80 ?_
  refine svX10 C dX0_tryHost_81 ?_
  refine R_letS (fun S6 => ?_)
  refine R_aload_n C dX0_tryHost_82 rfl 5 rfl ?_
  refine gtX_X0_tryBits C wd_1_152 dX0_tryHost_83 ?_
  refine R_iload C dX0_tryHost_86 3 rfl ?_
  refine R_iload C dX0_tryHost_88 1 rfl ?_
  refine R_iconst (v := (1 : Int32)) C dX0_tryHost_90 (by decide) ?_
  refine R_iload_n C dX0_tryHost_91 rfl 8 rfl ?_
  refine R_ishl C dX0_tryHost_92 ?_
  refine R_ior C dX0_tryHost_93 ?_
  refine svX10 C dX0_tryHost_94 ?_
  refine R_letS (fun S7 => ?_)
  refine R_aload_n C dX0_tryHost_95 rfl 5 rfl ?_
  refine gtX_X0_tryLoads C wd_1_151 dX0_tryHost_96 ?_
  refine R_iload_n C dX0_tryHost_99 rfl 8 rfl ?_
  refine R_dup2 C dX0_tryHost_100 rfl rfl ?_
  refine ldX9 C dX0_tryHost_101 ?_
  refine R_iconst (v := (1 : Int32)) C dX0_tryHost_102 (by decide) ?_
  refine R_iadd C dX0_tryHost_103 ?_
  refine svX9 C dX0_tryHost_104 ?_
  refine R_letS (fun S8 => ?_)
  refine R_aload_n C dX0_tryHost_105 rfl 5 rfl ?_
  refine R_iload_n C dX0_tryHost_106 rfl 6 rfl ?_
  refine R_iconst (v := (1 : Int32)) C dX0_tryHost_107 (by decide) ?_
  refine R_iadd C dX0_tryHost_108 ?_
  refine R_iload_n C dX0_tryHost_109 rfl 7 rfl ?_
  refine R_iload C dX0_tryHost_110 0 rfl ?_
  refine R_iadd C dX0_tryHost_112 ?_
  refine R_iload C dX0_tryHost_113 9 rfl ?_
  refine R_callv (As := [.int (v1 + (1 : Int32)), .int (v2 + x5), .int v4]) (st := []) C (hkr (v1 + (1 : Int32)) (v2 + x5) v4 S8) (Nat.le_refl _) (by decide) wd_2_161 kwX0_dealFrom 4 rfl rfl rfl rfl (Nat.le_of_ble_eq_true rfl) dX0_tryHost_115 (fun r9 S10 => ?_)
  refine R_aload_n C dX0_tryHost_118 rfl 5 rfl ?_
  refine gtX_X0_tryLoads C wd_1_151 dX0_tryHost_119 ?_
  refine R_iload_n C dX0_tryHost_122 rfl 8 rfl ?_
  refine R_dup2 C dX0_tryHost_123 rfl rfl ?_
  refine ldX9 C dX0_tryHost_124 ?_
  refine R_iconst (v := (1 : Int32)) C dX0_tryHost_125 (by decide) ?_
  refine R_isub C dX0_tryHost_126 ?_
  refine svX9 C dX0_tryHost_127 ?_
  refine R_letS (fun S11 => ?_)
  refine R_aload_n C dX0_tryHost_128 rfl 5 rfl ?_
  refine gtX_X0_tryBits C wd_1_152 dX0_tryHost_129 ?_
  refine R_iload C dX0_tryHost_132 4 rfl ?_
  refine R_iload C dX0_tryHost_134 2 rfl ?_
  refine svX10 C dX0_tryHost_136 ?_
  refine R_letS (fun S12 => ?_)
  refine R_aload_n C dX0_tryHost_137 rfl 5 rfl ?_
  refine gtX_X0_tryBits C wd_1_152 dX0_tryHost_138 ?_
  refine R_iload C dX0_tryHost_141 3 rfl ?_
  refine R_iload C dX0_tryHost_143 1 rfl ?_
  refine svX10 C dX0_tryHost_145 ?_
  refine R_letS (fun S13 => ?_)
  exact R_retv C dX0_tryHost_146
theorem dX0_dealFrom_0 : decode cX0_dealFrom 0 = .ok (.iload_n 2, 1) := by decide +kernel
theorem dX0_dealFrom_1 : decode cX0_dealFrom 1 = .ok (.aload_n 0, 1) := by decide +kernel
theorem dX0_dealFrom_2 : decode cX0_dealFrom 2 = .ok (.getfield 35, 3) := by decide +kernel
theorem dX0_dealFrom_5 : decode cX0_dealFrom 5 = .ok (.if_icmp .lt 4, 3) := by decide +kernel
theorem dX0_dealFrom_8 : decode cX0_dealFrom 8 = .ok (.return_, 1) := by decide +kernel
theorem dX0_dealFrom_9 : decode cX0_dealFrom 9 = .ok (.iload_n 1, 1) := by decide +kernel
theorem dX0_dealFrom_10 : decode cX0_dealFrom 10 = .ok (.aload_n 0, 1) := by decide +kernel
theorem dX0_dealFrom_11 : decode cX0_dealFrom 11 = .ok (.getfield 32, 3) := by decide +kernel
theorem dX0_dealFrom_14 : decode cX0_dealFrom 14 = .ok (.if_icmp .lt 9, 3) := by decide +kernel
theorem dX0_dealFrom_17 : decode cX0_dealFrom 17 = .ok (.aload_n 0, 1) := by decide +kernel
theorem dX0_dealFrom_18 : decode cX0_dealFrom 18 = .ok (.iload_n 2, 1) := by decide +kernel
theorem dX0_dealFrom_19 : decode cX0_dealFrom 19 = .ok (.putfield 35, 3) := by decide +kernel
theorem dX0_dealFrom_22 : decode cX0_dealFrom 22 = .ok (.return_, 1) := by decide +kernel
theorem dX0_dealFrom_23 : decode cX0_dealFrom 23 = .ok (.iload_n 3, 1) := by decide +kernel
theorem dX0_dealFrom_24 : decode cX0_dealFrom 24 = .ok (.iconst 1, 1) := by decide +kernel
theorem dX0_dealFrom_25 : decode cX0_dealFrom 25 = .ok (.iadd, 1) := by decide +kernel
theorem dX0_dealFrom_26 : decode cX0_dealFrom 26 = .ok (.aload_n 0, 1) := by decide +kernel
theorem dX0_dealFrom_27 : decode cX0_dealFrom 27 = .ok (.getfield 21, 3) := by decide +kernel
theorem dX0_dealFrom_30 : decode cX0_dealFrom 30 = .ok (.getfield 51, 3) := by decide +kernel
theorem dX0_dealFrom_33 : decode cX0_dealFrom 33 = .ok (.aload_n 0, 1) := by decide +kernel
theorem dX0_dealFrom_34 : decode cX0_dealFrom 34 = .ok (.getfield 15, 3) := by decide +kernel
theorem dX0_dealFrom_37 : decode cX0_dealFrom 37 = .ok (.arraylength, 1) := by decide +kernel
theorem dX0_dealFrom_38 : decode cX0_dealFrom 38 = .ok (.invokestatic 54, 3) := by decide +kernel
theorem dX0_dealFrom_41 : decode cX0_dealFrom 41 = .ok (.invokestatic 54, 3) := by decide +kernel
theorem dX0_dealFrom_44 : decode cX0_dealFrom 44 = .ok (.istore 4, 2) := by decide +kernel
theorem dX0_dealFrom_46 : decode cX0_dealFrom 46 = .ok (.iconst 0, 1) := by decide +kernel
theorem dX0_dealFrom_47 : decode cX0_dealFrom 47 = .ok (.istore 5, 2) := by decide +kernel
theorem dX0_dealFrom_49 : decode cX0_dealFrom 49 = .ok (.iload 5, 2) := by decide +kernel
theorem dX0_dealFrom_51 : decode cX0_dealFrom 51 = .ok (.iload 4, 2) := by decide +kernel
theorem dX0_dealFrom_53 : decode cX0_dealFrom 53 = .ok (.if_icmp .ge 39, 3) := by decide +kernel
theorem dX0_dealFrom_56 : decode cX0_dealFrom 56 = .ok (.aload_n 0, 1) := by decide +kernel
theorem dX0_dealFrom_57 : decode cX0_dealFrom 57 = .ok (.getfield 15, 3) := by decide +kernel
theorem dX0_dealFrom_60 : decode cX0_dealFrom 60 = .ok (.iload 5, 2) := by decide +kernel
theorem dX0_dealFrom_62 : decode cX0_dealFrom 62 = .ok (.iaload, 1) := by decide +kernel
theorem dX0_dealFrom_63 : decode cX0_dealFrom 63 = .ok (.aload_n 0, 1) := by decide +kernel
theorem dX0_dealFrom_64 : decode cX0_dealFrom 64 = .ok (.getfield 28, 3) := by decide +kernel
theorem dX0_dealFrom_67 : decode cX0_dealFrom 67 = .ok (.if_icmp .ge 19, 3) := by decide +kernel
theorem dX0_dealFrom_70 : decode cX0_dealFrom 70 = .ok (.aload_n 0, 1) := by decide +kernel
theorem dX0_dealFrom_71 : decode cX0_dealFrom 71 = .ok (.iload_n 1, 1) := by decide +kernel
theorem dX0_dealFrom_72 : decode cX0_dealFrom 72 = .ok (.iload_n 2, 1) := by decide +kernel
theorem dX0_dealFrom_73 : decode cX0_dealFrom 73 = .ok (.iload 5, 2) := by decide +kernel
theorem dX0_dealFrom_75 : decode cX0_dealFrom 75 = .ok (.iload_n 3, 1) := by decide +kernel
theorem dX0_dealFrom_76 : decode cX0_dealFrom 76 = .ok (.iload 5, 2) := by decide +kernel
theorem dX0_dealFrom_78 : decode cX0_dealFrom 78 = .ok (.iconst 1, 1) := by decide +kernel
theorem dX0_dealFrom_79 : decode cX0_dealFrom 79 = .ok (.iadd, 1) := by decide +kernel
theorem dX0_dealFrom_80 : decode cX0_dealFrom 80 = .ok (.invokestatic 60, 3) := by decide +kernel
theorem dX0_dealFrom_83 : decode cX0_dealFrom 83 = .ok (.invokevirtual 63, 3) := by decide +kernel
theorem dX0_dealFrom_86 : decode cX0_dealFrom 86 = .ok (.iinc 5 1, 3) := by decide +kernel
theorem dX0_dealFrom_89 : decode cX0_dealFrom 89 = .ok (.goto (-40), 3) := by decide +kernel
theorem dX0_dealFrom_92 : decode cX0_dealFrom 92 = .ok (.return_, 1) := by decide +kernel
set_option maxHeartbeats 4000000 in
set_option maxRecDepth 100000 in
theorem uX0_dealFrom_86 {dd : Nat} (kr : Int32 → Int32 → Int32 → Int32 → St → Rs) (hkr : ∀ (v1 v2 v3 v4 : Int32) (S : St), CV l D (wX a cA) [(cA, .int)] yX0_tryHost (.code yX0_tryHost cX0_tryHost 10 none) dd [.ref (a 4), .int v1, .int v2, .int v3, .int v4] (kr v1 v2 v3 v4 S) S) (C : CX D [(cA, .int)] p s m args meth c A cX0_dealFrom 6 RX0 none) (k49 : Int32 → Int32 → Int32 → Int32 → Int32 → St → Rs) (h49 : ∀ (v1 v2 v3 v4 v5 : Int32) (S : St), RU D (wX a cA) p l e (dd + 1) s m args below meth c A 6 (QV D (wX a cA) [(cA, .int)] A) (k49 v1 v2 v3 v4 v5 S) 49 [] [(0, .ref (a 4)), (1, .int v1), (2, .int v2), (3, .int v3), (4, .int v4), (5, .int v5)] S) (v1 v2 v3 v4 v5 : Int32) (S : St) : RU D (wX a cA) p l e (dd + 1) s m args below meth c A 6 (QV D (wX a cA) [(cA, .int)] A) (fX0_dealFrom_86 kr k49 v1 v2 v3 v4 v5 S) 86 [] [(0, .ref (a 4)), (1, .int v1), (2, .int v2), (3, .int v3), (4, .int v4), (5, .int v5)] S := by
  unfold fX0_dealFrom_86
  refine R_iinc (v := v5 + 1) (lv' := [(5, .int (v5 + 1)), (0, .ref (a 4)), (1, .int v1), (2, .int v2), (3, .int v3), (4, .int v4)]) C dX0_dealFrom_86 5 rfl rfl (by decide) rfl ?_
  refine R_goto (tgt := 49) C dX0_dealFrom_89 (by decide) ?_
  refine R_sub [1, 2, 3, 4, 5, 0] rfl ?_
  exact h49 v1 v2 v3 v4 (v5 + 1) S
set_option maxHeartbeats 4000000 in
set_option maxRecDepth 100000 in
theorem uX0_dealFrom_49_b {dd : Nat} (kr : Int32 → Int32 → Int32 → Int32 → St → Rs) (hkr : ∀ (v1 v2 v3 v4 : Int32) (S : St), CV l D (wX a cA) [(cA, .int)] yX0_tryHost (.code yX0_tryHost cX0_tryHost 10 none) dd [.ref (a 4), .int v1, .int v2, .int v3, .int v4] (kr v1 v2 v3 v4 S) S) (C : CX D [(cA, .int)] p s m args meth c A cX0_dealFrom 6 RX0 none) (k49 : Int32 → Int32 → Int32 → Int32 → Int32 → St → Rs) (h49 : ∀ (v1 v2 v3 v4 v5 : Int32) (S : St), RU D (wX a cA) p l e (dd + 1) s m args below meth c A 6 (QV D (wX a cA) [(cA, .int)] A) (k49 v1 v2 v3 v4 v5 S) 49 [] [(0, .ref (a 4)), (1, .int v1), (2, .int v2), (3, .int v3), (4, .int v4), (5, .int v5)] S) (v1 v2 v3 v4 v5 : Int32) (S : St) : RU D (wX a cA) p l e (dd + 1) s m args below meth c A 6 (QV D (wX a cA) [(cA, .int)] A) (fX0_dealFrom_49_b kr k49 v1 v2 v3 v4 v5 S) 49 [] [(0, .ref (a 4)), (1, .int v1), (2, .int v2), (3, .int v3), (4, .int v4), (5, .int v5)] S := by
  unfold fX0_dealFrom_49_b
  refine R_iload C dX0_dealFrom_49 5 rfl ?_
  refine R_iload C dX0_dealFrom_51 4 rfl ?_
  refine R_icmp_ge (tgt := 92) C dX0_dealFrom_53 (by decide) ?_ ?_
  · exact R_retv C dX0_dealFrom_92
  · refine R_aload_n C dX0_dealFrom_56 rfl 0 rfl ?_
    refine gtX_X0_tryLoads C wd_1_151 dX0_dealFrom_57 ?_
    refine R_iload C dX0_dealFrom_60 5 rfl ?_
    refine ldX9 C dX0_dealFrom_62 ?_
    refine R_aload_n C dX0_dealFrom_63 rfl 0 rfl ?_
    refine gtX_X0_limit C wd_1_154 dX0_dealFrom_64 ?_
    refine R_icmp_ge (tgt := 86) C dX0_dealFrom_67 (by decide) ?_ ?_
    · exact uX0_dealFrom_86 kr hkr C k49 h49 v1 v2 v3 v4 v5 S
    · refine R_aload_n C dX0_dealFrom_70 rfl 0 rfl ?_
      refine R_iload_n C dX0_dealFrom_71 rfl 1 rfl ?_
      refine R_iload_n C dX0_dealFrom_72 rfl 2 rfl ?_
      refine R_iload C dX0_dealFrom_73 5 rfl ?_
      refine R_iload_n C dX0_dealFrom_75 rfl 3 rfl ?_
      refine R_iload C dX0_dealFrom_76 5 rfl ?_
      refine R_iconst (v := (1 : Int32)) C dX0_dealFrom_78 (by decide) ?_
      refine R_iadd C dX0_dealFrom_79 ?_
      refine R_mmax C wd_2_166 wd_1_26 wd_1_3 wd_1_27 (by omega) (Nat.le_of_ble_eq_true rfl) dX0_dealFrom_80 ?_
      refine R_callv (As := [.int v1, .int v2, .int v5, .int (if v3 < (v5 + (1 : Int32)) then (v5 + (1 : Int32)) else v3)]) (st := []) C (hkr v1 v2 v5 (if v3 < (v5 + (1 : Int32)) then (v5 + (1 : Int32)) else v3) S) (Nat.le_refl _) (by decide) wd_2_167 kwX0_tryHost 4 rfl rfl rfl rfl (Nat.le_of_ble_eq_true rfl) dX0_dealFrom_83 (fun r1 S2 => ?_)
      exact uX0_dealFrom_86 kr hkr C k49 h49 v1 v2 v3 v4 v5 S2
set_option maxHeartbeats 4000000 in
set_option maxRecDepth 100000 in
theorem uX0_dealFrom_49 {dd : Nat} (kr : Int32 → Int32 → Int32 → Int32 → St → Rs) (hkr : ∀ (v1 v2 v3 v4 : Int32) (S : St), CV l D (wX a cA) [(cA, .int)] yX0_tryHost (.code yX0_tryHost cX0_tryHost 10 none) dd [.ref (a 4), .int v1, .int v2, .int v3, .int v4] (kr v1 v2 v3 v4 S) S) (C : CX D [(cA, .int)] p s m args meth c A cX0_dealFrom 6 RX0 none) : ∀ (n : Nat) (v1 v2 v3 v4 v5 : Int32) (S : St), RU D (wX a cA) p l e (dd + 1) s m args below meth c A 6 (QV D (wX a cA) [(cA, .int)] A) (fX0_dealFrom_49 kr n v1 v2 v3 v4 v5 S) 49 [] [(0, .ref (a 4)), (1, .int v1), (2, .int v2), (3, .int v3), (4, .int v4), (5, .int v5)] S := by
  intro n
  induction n with
  | zero => intro v1 v2 v3 v4 v5 S; exact R_none
  | succ n ih => intro v1 v2 v3 v4 v5 S; exact uX0_dealFrom_49_b kr hkr C _ ih v1 v2 v3 v4 v5 S
set_option maxHeartbeats 4000000 in
set_option maxRecDepth 100000 in
theorem uX0_dealFrom {dd : Nat} (kr : Int32 → Int32 → Int32 → Int32 → St → Rs) (hkr : ∀ (v1 v2 v3 v4 : Int32) (S : St), CV l D (wX a cA) [(cA, .int)] yX0_tryHost (.code yX0_tryHost cX0_tryHost 10 none) dd [.ref (a 4), .int v1, .int v2, .int v3, .int v4] (kr v1 v2 v3 v4 S) S) (C : CX D [(cA, .int)] p s m args meth c A cX0_dealFrom 6 RX0 none) (v1 v2 v3 : Int32) (S : St) : RU D (wX a cA) p l e (dd + 1) s m args below meth c A 6 (QV D (wX a cA) [(cA, .int)] A) (fX0_dealFrom_s kr v1 v2 v3 S) 0 [] [(0, .ref (a 4)), (1, .int v1), (2, .int v2), (3, .int v3)] S := by
  unfold fX0_dealFrom_s
  refine R_iload_n C dX0_dealFrom_0 rfl 2 rfl ?_
  refine R_aload_n C dX0_dealFrom_1 rfl 0 rfl ?_
  refine gtX_X0_fewest C wd_1_155 dX0_dealFrom_2 ?_
  refine R_icmp_lt (tgt := 9) C dX0_dealFrom_5 (by decide) ?_ ?_
  · refine R_iload_n C dX0_dealFrom_9 rfl 1 rfl ?_
    refine R_aload_n C dX0_dealFrom_10 rfl 0 rfl ?_
    refine gtX_X0_size C wd_1_153 dX0_dealFrom_11 ?_
    refine R_icmp_lt (tgt := 23) C dX0_dealFrom_14 (by decide) ?_ ?_
    · refine R_iload_n C dX0_dealFrom_23 rfl 3 rfl ?_
      refine R_iconst (v := (1 : Int32)) C dX0_dealFrom_24 (by decide) ?_
      refine R_iadd C dX0_dealFrom_25 ?_
      refine R_aload_n C dX0_dealFrom_26 rfl 0 rfl ?_
      refine gtX_X0_net C wd_1_149 dX0_dealFrom_27 ?_
      refine gtX_X4_hosts C wd_1_60 dX0_dealFrom_30 ?_
      refine R_aload_n C dX0_dealFrom_33 rfl 0 rfl ?_
      refine gtX_X0_tryLoads C wd_1_151 dX0_dealFrom_34 ?_
      refine lnX9 C dX0_dealFrom_37 ?_
      refine R_mmin C wd_2_165 wd_1_23 wd_1_3 wd_1_24 (by omega) (Nat.le_of_ble_eq_true rfl) dX0_dealFrom_38 ?_
      refine R_mmin C wd_2_165 wd_1_23 wd_1_3 wd_1_24 (by omega) (Nat.le_of_ble_eq_true rfl) dX0_dealFrom_41 ?_
      refine R_let (fun x1 => ?_)
      refine R_istore (lv' := [(4, .int x1), (0, .ref (a 4)), (1, .int v1), (2, .int v2), (3, .int v3)]) C dX0_dealFrom_44 (by decide) rfl ?_
      refine R_iconst (v := (0 : Int32)) C dX0_dealFrom_46 (by decide) ?_
      refine R_istore (lv' := [(5, .int (0 : Int32)), (4, .int x1), (0, .ref (a 4)), (1, .int v1), (2, .int v2), (3, .int v3)]) C dX0_dealFrom_47 (by decide) rfl ?_
      refine R_sub [2, 3, 4, 5, 1, 0] rfl ?_
      exact uX0_dealFrom_49 kr hkr C FU v1 v2 v3 x1 (0 : Int32) S
    · refine R_aload_n C dX0_dealFrom_17 rfl 0 rfl ?_
      refine R_iload_n C dX0_dealFrom_18 rfl 2 rfl ?_
      refine ptX_X0_fewest C wd_1_155 dX0_dealFrom_19 ?_
      refine R_letS (fun S2 => ?_)
      exact R_retv C dX0_dealFrom_22
  · exact R_retv C dX0_dealFrom_8
set_option maxHeartbeats 4000000 in
set_option maxRecDepth 100000 in
theorem kX0_dealFrom_n (l : Launch) (D : va_G) (a : Nat → Nat) (cA : ClassId) : ∀ (n : Nat) (S : St) (v1 v2 v3 : Int32), CV l D (wX a cA) [(cA, .int)] yX0_dealFrom (.code yX0_dealFrom cX0_dealFrom 6 none) (2 * n + 1) [.ref (a 4), .int v1, .int v2, .int v3] (fX0_dealFrom n v1 v2 v3 S) S := by
  intro n
  induction n with
  | zero => intro S v1 v2 v3 r S' h; cases h
  | succ n ih =>
    intro S v1 v2 v3
    exact CV_of rfl (Nat.le_of_ble_eq_true rfl) (fun p e s m args below meth c A C => uX0_dealFrom (dd := 2 * n + 1 + 1) (fX0_tryHost_s (fX0_dealFrom n)) (fun w1 w2 w3 w4 S2 => CV_of rfl (Nat.le_of_ble_eq_true rfl) (fun p e s m args below meth c A C => uX0_tryHost (dd := 2 * n + 1) (fX0_dealFrom n) (fun x1 x2 x3 S3 => ih S3 x1 x2 x3) C w1 w2 w3 w4 S2)) C v1 v2 v3 S)
theorem kX0_dealFrom (l : Launch) (D : va_G) (a : Nat → Nat) (cA : ClassId) (n : Nat) (S : St) (v1 v2 v3 : Int32) : CV l D (wX a cA) [(cA, .int)] yX0_dealFrom (.code yX0_dealFrom cX0_dealFrom 6 none) (2 * n + 1) [.ref (a 4), .int v1, .int v2, .int v3] (fX0_dealFrom n v1 v2 v3 S) S := kX0_dealFrom_n l D a cA n S v1 v2 v3
theorem dX0_fewestCopies_0 : decode cX0_fewestCopies 0 = .ok (.aload_n 0, 1) := by decide +kernel
theorem dX0_fewestCopies_1 : decode cX0_fewestCopies 1 = .ok (.invokevirtual 25, 3) := by decide +kernel
theorem dX0_fewestCopies_4 : decode cX0_fewestCopies 4 = .ok (.aload_n 0, 1) := by decide +kernel
theorem dX0_fewestCopies_5 : decode cX0_fewestCopies 5 = .ok (.iload_n 1, 1) := by decide +kernel
theorem dX0_fewestCopies_6 : decode cX0_fewestCopies 6 = .ok (.putfield 28, 3) := by decide +kernel
theorem dX0_fewestCopies_9 : decode cX0_fewestCopies 9 = .ok (.aload_n 0, 1) := by decide +kernel
theorem dX0_fewestCopies_10 : decode cX0_fewestCopies 10 = .ok (.iconst 2, 1) := by decide +kernel
theorem dX0_fewestCopies_11 : decode cX0_fewestCopies 11 = .ok (.aload_n 0, 1) := by decide +kernel
theorem dX0_fewestCopies_12 : decode cX0_fewestCopies 12 = .ok (.getfield 32, 3) := by decide +kernel
theorem dX0_fewestCopies_15 : decode cX0_fewestCopies 15 = .ok (.imul, 1) := by decide +kernel
theorem dX0_fewestCopies_16 : decode cX0_fewestCopies 16 = .ok (.putfield 35, 3) := by decide +kernel
theorem dX0_fewestCopies_19 : decode cX0_fewestCopies 19 = .ok (.aload_n 0, 1) := by decide +kernel
theorem dX0_fewestCopies_20 : decode cX0_fewestCopies 20 = .ok (.iconst 0, 1) := by decide +kernel
theorem dX0_fewestCopies_21 : decode cX0_fewestCopies 21 = .ok (.iconst 0, 1) := by decide +kernel
theorem dX0_fewestCopies_22 : decode cX0_fewestCopies 22 = .ok (.iconst 0, 1) := by decide +kernel
theorem dX0_fewestCopies_23 : decode cX0_fewestCopies 23 = .ok (.invokevirtual 38, 3) := by decide +kernel
theorem dX0_fewestCopies_26 : decode cX0_fewestCopies 26 = .ok (.aload_n 0, 1) := by decide +kernel
theorem dX0_fewestCopies_27 : decode cX0_fewestCopies 27 = .ok (.getfield 35, 3) := by decide +kernel
theorem dX0_fewestCopies_30 : decode cX0_fewestCopies 30 = .ok (.ireturn, 1) := by decide +kernel
set_option maxHeartbeats 4000000 in
set_option maxRecDepth 100000 in
theorem uX0_fewestCopies (C : CX D [(cA, .int)] p s m args meth c A cX0_fewestCopies 2 RX0 (some .int)) (v1 : Int32) (S : St) : RU D (wX a cA) p l e 22 s m args below meth c A 2 (QI D (wX a cA) [(cA, .int)] A) (fX0_fewestCopies v1 S) 0 [] [(0, .ref (a 4)), (1, .int v1)] S := by
  unfold fX0_fewestCopies
  refine R_aload_n C dX0_fewestCopies_0 rfl 0 rfl ?_
  refine R_callv (As := []) (st := []) C (kX0_collectLines l D a cA S) (by decide) (by decide) wd_2_156 kwX0_collectLines 4 rfl rfl rfl rfl (Nat.le_of_ble_eq_true rfl) dX0_fewestCopies_1 (fun r1 S2 => ?_)
  refine R_aload_n C dX0_fewestCopies_4 rfl 0 rfl ?_
  refine R_iload_n C dX0_fewestCopies_5 rfl 1 rfl ?_
  refine ptX_X0_limit C wd_1_154 dX0_fewestCopies_6 ?_
  refine R_letS (fun S3 => ?_)
  refine R_aload_n C dX0_fewestCopies_9 rfl 0 rfl ?_
  refine R_iconst (v := (2 : Int32)) C dX0_fewestCopies_10 (by decide) ?_
  refine R_aload_n C dX0_fewestCopies_11 rfl 0 rfl ?_
  refine gtX_X0_size C wd_1_153 dX0_fewestCopies_12 ?_
  refine R_imul C dX0_fewestCopies_15 ?_
  refine ptX_X0_fewest C wd_1_155 dX0_fewestCopies_16 ?_
  refine R_letS (fun S4 => ?_)
  refine R_aload_n C dX0_fewestCopies_19 rfl 0 rfl ?_
  refine R_iconst (v := (0 : Int32)) C dX0_fewestCopies_20 (by decide) ?_
  refine R_iconst (v := (0 : Int32)) C dX0_fewestCopies_21 (by decide) ?_
  refine R_iconst (v := (0 : Int32)) C dX0_fewestCopies_22 (by decide) ?_
  refine R_callv (As := [.int (0 : Int32), .int (0 : Int32), .int (0 : Int32)]) (st := []) C (kX0_dealFrom l D a cA 10 S4 (0 : Int32) (0 : Int32) (0 : Int32)) (by decide) (by decide) wd_2_161 kwX0_dealFrom 4 rfl rfl rfl rfl (Nat.le_of_ble_eq_true rfl) dX0_fewestCopies_23 (fun r5 S6 => ?_)
  refine R_aload_n C dX0_fewestCopies_26 rfl 0 rfl ?_
  refine gtX_X0_fewest C wd_1_155 dX0_fewestCopies_27 ?_
  exact R_reti C dX0_fewestCopies_30
set_option maxHeartbeats 4000000 in
set_option maxRecDepth 100000 in
theorem kX0_fewestCopies (l : Launch) (D : va_G) (a : Nat → Nat) (cA : ClassId) (S : St) (v1 : Int32) : CI l D (wX a cA) [(cA, .int)] yX0_fewestCopies (.code yX0_fewestCopies cX0_fewestCopies 2 (some .int)) 22 [.ref (a 4), .int v1] (fX0_fewestCopies v1 S) S := CI_of rfl (Nat.le_of_ble_eq_true rfl) (fun p e s m args below meth c A C => uX0_fewestCopies C v1 S)
theorem dX6_best_0 : decode cX6_best 0 = .ok (.aload_n 0, 1) := by decide +kernel
theorem dX6_best_1 : decode cX6_best 1 = .ok (.getfield 23, 3) := by decide +kernel
theorem dX6_best_4 : decode cX6_best 4 = .ok (.getfield 139, 3) := by decide +kernel
theorem dX6_best_7 : decode cX6_best 7 = .ok (.iconst 1, 1) := by decide +kernel
theorem dX6_best_8 : decode cX6_best 8 = .ok (.if_icmp .lt 26, 3) := by decide +kernel
theorem dX6_best_11 : decode cX6_best 11 = .ok (.aload_n 0, 1) := by decide +kernel
theorem dX6_best_12 : decode cX6_best 12 = .ok (.getfield 23, 3) := by decide +kernel
theorem dX6_best_15 : decode cX6_best 15 = .ok (.getfield 139, 3) := by decide +kernel
theorem dX6_best_18 : decode cX6_best 18 = .ok (.bipush 8, 2) := by decide +kernel
theorem dX6_best_20 : decode cX6_best 20 = .ok (.if_icmp .gt 14, 3) := by decide +kernel
theorem dX6_best_23 : decode cX6_best 23 = .ok (.aload_n 0, 1) := by decide +kernel
theorem dX6_best_24 : decode cX6_best 24 = .ok (.getfield 23, 3) := by decide +kernel
theorem dX6_best_27 : decode cX6_best 27 = .ok (.getfield 111, 3) := by decide +kernel
theorem dX6_best_30 : decode cX6_best 30 = .ok (.iconst 3, 1) := by decide +kernel
theorem dX6_best_31 : decode cX6_best 31 = .ok (.if_icmp .le 5, 3) := by decide +kernel
theorem dX6_best_34 : decode cX6_best 34 = .ok (.iconst (-1), 1) := by decide +kernel
theorem dX6_best_35 : decode cX6_best 35 = .ok (.ireturn, 1) := by decide +kernel
theorem dX6_best_36 : decode cX6_best 36 = .ok (.aload_n 0, 1) := by decide +kernel
theorem dX6_best_37 : decode cX6_best 37 = .ok (.getfield 46, 3) := by decide +kernel
theorem dX6_best_40 : decode cX6_best 40 = .ok (.aload_n 0, 1) := by decide +kernel
theorem dX6_best_41 : decode cX6_best 41 = .ok (.getfield 32, 3) := by decide +kernel
theorem dX6_best_44 : decode cX6_best 44 = .ok (.aload_n 0, 1) := by decide +kernel
theorem dX6_best_45 : decode cX6_best 45 = .ok (.getfield 23, 3) := by decide +kernel
theorem dX6_best_48 : decode cX6_best 48 = .ok (.getfield 139, 3) := by decide +kernel
theorem dX6_best_51 : decode cX6_best 51 = .ok (.invokevirtual 142, 3) := by decide +kernel
theorem dX6_best_54 : decode cX6_best 54 = .ok (.invokevirtual 145, 3) := by decide +kernel
theorem dX6_best_57 : decode cX6_best 57 = .ok (.ireturn, 1) := by decide +kernel
set_option maxHeartbeats 4000000 in
set_option maxRecDepth 100000 in
theorem uX6_best_34 (C : CX D [(cA, .int)] p s m args meth c A cX6_best 1 RX6 (some .int)) (S : St) : RU D (wX a cA) p l e 23 s m args below meth c A 1 (QI D (wX a cA) [(cA, .int)] A) (fX6_best_34 S) 34 [] [] S := by
  unfold fX6_best_34
  refine R_iconst (v := (-1 : Int32)) C dX6_best_34 (by decide) ?_
  exact R_reti C dX6_best_35
set_option maxHeartbeats 4000000 in
set_option maxRecDepth 100000 in
theorem uX6_best (C : CX D [(cA, .int)] p s m args meth c A cX6_best 1 RX6 (some .int)) (S : St) : RU D (wX a cA) p l e 23 s m args below meth c A 1 (QI D (wX a cA) [(cA, .int)] A) (fX6_best S) 0 [] [(0, .ref (a 0))] S := by
  unfold fX6_best
  refine R_aload_n C dX6_best_0 rfl 0 rfl ?_
  refine gtX_X6_net C wd_1_205 dX6_best_1 ?_
  refine gtX_X4_live C wd_1_69 dX6_best_4 ?_
  refine R_iconst (v := (1 : Int32)) C dX6_best_7 (by decide) ?_
  refine R_icmp_lt (tgt := 34) C dX6_best_8 (by decide) ?_ ?_
  · refine R_sub [] rfl ?_
    exact uX6_best_34 C S
  · refine R_aload_n C dX6_best_11 rfl 0 rfl ?_
    refine gtX_X6_net C wd_1_205 dX6_best_12 ?_
    refine gtX_X4_live C wd_1_69 dX6_best_15 ?_
    refine R_bipush (v := (8 : Int32)) C dX6_best_18 (by decide) ?_
    refine R_icmp_gt (tgt := 34) C dX6_best_20 (by decide) ?_ ?_
    · refine R_sub [] rfl ?_
      exact uX6_best_34 C S
    · refine R_aload_n C dX6_best_23 rfl 0 rfl ?_
      refine gtX_X6_net C wd_1_205 dX6_best_24 ?_
      refine gtX_X4_hosts C wd_1_61 dX6_best_27 ?_
      refine R_iconst (v := (3 : Int32)) C dX6_best_30 (by decide) ?_
      refine R_icmp_le (tgt := 36) C dX6_best_31 (by decide) ?_ ?_
      · refine R_aload_n C dX6_best_36 rfl 0 rfl ?_
        refine gtX_X6_bestSearch C wd_1_208 dX6_best_37 ?_
        refine R_aload_n C dX6_best_40 rfl 0 rfl ?_
        refine gtX_X6_dealing C wd_1_206 dX6_best_41 ?_
        refine R_aload_n C dX6_best_44 rfl 0 rfl ?_
        refine gtX_X6_net C wd_1_205 dX6_best_45 ?_
        refine gtX_X4_live C wd_1_69 dX6_best_48 ?_
        refine R_calli (As := [.int (S.1 4)]) (st := [.ref (a 4)]) C (kX1_roomFor l D a cA S (S.1 4)) (by decide) (by decide) wd_2_88 kwX1_roomFor 2 rfl rfl rfl rfl (Nat.le_of_ble_eq_true rfl) dX6_best_51 (fun r1 S2 => ?_)
        refine R_calli (As := [.int r1]) (st := []) C (kX0_fewestCopies l D a cA S2 r1) (by decide) (by decide) wd_2_152 kwX0_fewestCopies 4 rfl rfl rfl rfl (Nat.le_of_ble_eq_true rfl) dX6_best_54 (fun r3 S4 => ?_)
        exact R_reti C dX6_best_57
      · refine R_sub [] rfl ?_
        exact uX6_best_34 C S
set_option maxHeartbeats 4000000 in
set_option maxRecDepth 100000 in
theorem kX6_best (l : Launch) (D : va_G) (a : Nat → Nat) (cA : ClassId) (S : St) : CI l D (wX a cA) [(cA, .int)] yX6_best (.code yX6_best cX6_best 1 (some .int)) 23 [.ref (a 0)] (fX6_best S) S := CI_of rfl (Nat.le_of_ble_eq_true rfl) (fun p e s m args below meth c A C => uX6_best C S)
theorem dX5_lowerTo_0 : decode cX5_lowerTo 0 = .ok (.iload_n 2, 1) := by decide +kernel
theorem dX5_lowerTo_1 : decode cX5_lowerTo 1 = .ok (.aload_n 0, 1) := by decide +kernel
theorem dX5_lowerTo_2 : decode cX5_lowerTo 2 = .ok (.getfield 9, 3) := by decide +kernel
theorem dX5_lowerTo_5 : decode cX5_lowerTo 5 = .ok (.iload_n 1, 1) := by decide +kernel
theorem dX5_lowerTo_6 : decode cX5_lowerTo 6 = .ok (.iaload, 1) := by decide +kernel
theorem dX5_lowerTo_7 : decode cX5_lowerTo 7 = .ok (.if_icmp .lt 5, 3) := by decide +kernel
theorem dX5_lowerTo_10 : decode cX5_lowerTo 10 = .ok (.iconst 0, 1) := by decide +kernel
theorem dX5_lowerTo_11 : decode cX5_lowerTo 11 = .ok (.ireturn, 1) := by decide +kernel
theorem dX5_lowerTo_12 : decode cX5_lowerTo 12 = .ok (.aload_n 0, 1) := by decide +kernel
theorem dX5_lowerTo_13 : decode cX5_lowerTo 13 = .ok (.getfield 9, 3) := by decide +kernel
theorem dX5_lowerTo_16 : decode cX5_lowerTo 16 = .ok (.iload_n 1, 1) := by decide +kernel
theorem dX5_lowerTo_17 : decode cX5_lowerTo 17 = .ok (.iload_n 2, 1) := by decide +kernel
theorem dX5_lowerTo_18 : decode cX5_lowerTo 18 = .ok (.iastore, 1) := by decide +kernel
theorem dX5_lowerTo_19 : decode cX5_lowerTo 19 = .ok (.iconst 1, 1) := by decide +kernel
theorem dX5_lowerTo_20 : decode cX5_lowerTo 20 = .ok (.ireturn, 1) := by decide +kernel
set_option maxHeartbeats 4000000 in
set_option maxRecDepth 100000 in
theorem uX5_lowerTo (C : CX D [(cA, .int)] p s m args meth c A cX5_lowerTo 3 RX5 (some .boolean)) (v1 v2 : Int32) (S : St) : RU D (wX a cA) p l e 1 s m args below meth c A 3 (QI D (wX a cA) [(cA, .int)] A) (fX5_lowerTo v1 v2 S) 0 [] [(0, .ref (a 5)), (1, .int v1), (2, .int v2)] S := by
  unfold fX5_lowerTo
  refine R_iload_n C dX5_lowerTo_0 rfl 2 rfl ?_
  refine R_aload_n C dX5_lowerTo_1 rfl 0 rfl ?_
  refine gtX_X5_values C wd_1_178 dX5_lowerTo_2 ?_
  refine R_iload_n C dX5_lowerTo_5 rfl 1 rfl ?_
  refine ldX11 C dX5_lowerTo_6 ?_
  refine R_icmp_lt (tgt := 12) C dX5_lowerTo_7 (by decide) ?_ ?_
  · refine R_aload_n C dX5_lowerTo_12 rfl 0 rfl ?_
    refine gtX_X5_values C wd_1_178 dX5_lowerTo_13 ?_
    refine R_iload_n C dX5_lowerTo_16 rfl 1 rfl ?_
    refine R_iload_n C dX5_lowerTo_17 rfl 2 rfl ?_
    refine svX11 C dX5_lowerTo_18 ?_
    refine R_letS (fun S1 => ?_)
    refine R_iconst (v := (1 : Int32)) C dX5_lowerTo_19 (by decide) ?_
    exact R_retz C dX5_lowerTo_20
  · refine R_iconst (v := (0 : Int32)) C dX5_lowerTo_10 (by decide) ?_
    exact R_retz C dX5_lowerTo_11
set_option maxHeartbeats 4000000 in
set_option maxRecDepth 100000 in
theorem kX5_lowerTo (l : Launch) (D : va_G) (a : Nat → Nat) (cA : ClassId) (S : St) (v1 v2 : Int32) : CI l D (wX a cA) [(cA, .int)] yX5_lowerTo (.code yX5_lowerTo cX5_lowerTo 3 (some .boolean)) 1 [.ref (a 5), .int v1, .int v2] (fX5_lowerTo v1 v2 S) S := CI_of rfl (Nat.le_of_ble_eq_true rfl) (fun p e s m args below meth c A C => uX5_lowerTo C v1 v2 S)
end
end
section
/-! walks of the class -/
section
variable {D : va_G} {a : Nat → Nat} {cA cZ : ClassId} {p : Program} {l : Launch} {e : Env} {s : State} {m : MethodId} {args : Array Value} {below : List Frame} {meth : Method} {c : Code} {A : Nat → Prop}

theorem dX5_goOneRound_0 : decode cX5_goOneRound 0 = .ok (.aload_n 0, 1) := by decide +kernel
theorem dX5_goOneRound_1 : decode cX5_goOneRound 1 = .ok (.getfield 9, 3) := by decide +kernel
theorem dX5_goOneRound_4 : decode cX5_goOneRound 4 = .ok (.iconst 0, 1) := by decide +kernel
theorem dX5_goOneRound_5 : decode cX5_goOneRound 5 = .ok (.aload_n 0, 1) := by decide +kernel
theorem dX5_goOneRound_6 : decode cX5_goOneRound 6 = .ok (.getfield 15, 3) := by decide +kernel
theorem dX5_goOneRound_9 : decode cX5_goOneRound 9 = .ok (.iconst 0, 1) := by decide +kernel
theorem dX5_goOneRound_10 : decode cX5_goOneRound 10 = .ok (.bipush 40, 2) := by decide +kernel
theorem dX5_goOneRound_12 : decode cX5_goOneRound 12 = .ok (.invokestatic 30, 3) := by decide +kernel
theorem dX5_goOneRound_15 : decode cX5_goOneRound 15 = .ok (.iconst 0, 1) := by decide +kernel
theorem dX5_goOneRound_16 : decode cX5_goOneRound 16 = .ok (.istore_n 1, 1) := by decide +kernel
theorem dX5_goOneRound_17 : decode cX5_goOneRound 17 = .ok (.iconst 0, 1) := by decide +kernel
theorem dX5_goOneRound_18 : decode cX5_goOneRound 18 = .ok (.istore_n 2, 1) := by decide +kernel
theorem dX5_goOneRound_19 : decode cX5_goOneRound 19 = .ok (.iload_n 2, 1) := by decide +kernel
theorem dX5_goOneRound_20 : decode cX5_goOneRound 20 = .ok (.aload_n 0, 1) := by decide +kernel
theorem dX5_goOneRound_21 : decode cX5_goOneRound 21 = .ok (.getfield 18, 3) := by decide +kernel
theorem dX5_goOneRound_24 : decode cX5_goOneRound 24 = .ok (.getfield 36, 3) := by decide +kernel
theorem dX5_goOneRound_27 : decode cX5_goOneRound 27 = .ok (.if_icmp .ge 69, 3) := by decide +kernel
theorem dX5_goOneRound_30 : decode cX5_goOneRound 30 = .ok (.aload_n 0, 1) := by decide +kernel
theorem dX5_goOneRound_31 : decode cX5_goOneRound 31 = .ok (.getfield 18, 3) := by decide +kernel
theorem dX5_goOneRound_34 : decode cX5_goOneRound 34 = .ok (.iload_n 2, 1) := by decide +kernel
theorem dX5_goOneRound_35 : decode cX5_goOneRound 35 = .ok (.invokevirtual 41, 3) := by decide +kernel
theorem dX5_goOneRound_38 : decode cX5_goOneRound 38 = .ok (.ifCond .eq 52, 3) := by decide +kernel
theorem dX5_goOneRound_41 : decode cX5_goOneRound 41 = .ok (.aload_n 0, 1) := by decide +kernel
theorem dX5_goOneRound_42 : decode cX5_goOneRound 42 = .ok (.getfield 18, 3) := by decide +kernel
theorem dX5_goOneRound_45 : decode cX5_goOneRound 45 = .ok (.getfield 45, 3) := by decide +kernel
theorem dX5_goOneRound_48 : decode cX5_goOneRound 48 = .ok (.iload_n 2, 1) := by decide +kernel
theorem dX5_goOneRound_49 : decode cX5_goOneRound 49 = .ok (.iaload, 1) := by decide +kernel
theorem dX5_goOneRound_50 : decode cX5_goOneRound 50 = .ok (.istore_n 3, 1) := by decide +kernel
theorem dX5_goOneRound_51 : decode cX5_goOneRound 51 = .ok (.aload_n 0, 1) := by decide +kernel
theorem dX5_goOneRound_52 : decode cX5_goOneRound 52 = .ok (.getfield 18, 3) := by decide +kernel
theorem dX5_goOneRound_55 : decode cX5_goOneRound 55 = .ok (.getfield 48, 3) := by decide +kernel
theorem dX5_goOneRound_58 : decode cX5_goOneRound 58 = .ok (.iload_n 2, 1) := by decide +kernel
theorem dX5_goOneRound_59 : decode cX5_goOneRound 59 = .ok (.iaload, 1) := by decide +kernel
theorem dX5_goOneRound_60 : decode cX5_goOneRound 60 = .ok (.istore 4, 2) := by decide +kernel
theorem dX5_goOneRound_62 : decode cX5_goOneRound 62 = .ok (.iload_n 1, 1) := by decide +kernel
theorem dX5_goOneRound_63 : decode cX5_goOneRound 63 = .ok (.aload_n 0, 1) := by decide +kernel
theorem dX5_goOneRound_64 : decode cX5_goOneRound 64 = .ok (.iload_n 3, 1) := by decide +kernel
theorem dX5_goOneRound_65 : decode cX5_goOneRound 65 = .ok (.aload_n 0, 1) := by decide +kernel
theorem dX5_goOneRound_66 : decode cX5_goOneRound 66 = .ok (.getfield 15, 3) := by decide +kernel
theorem dX5_goOneRound_69 : decode cX5_goOneRound 69 = .ok (.iload 4, 2) := by decide +kernel
theorem dX5_goOneRound_71 : decode cX5_goOneRound 71 = .ok (.iaload, 1) := by decide +kernel
theorem dX5_goOneRound_72 : decode cX5_goOneRound 72 = .ok (.invokevirtual 51, 3) := by decide +kernel
theorem dX5_goOneRound_75 : decode cX5_goOneRound 75 = .ok (.aload_n 0, 1) := by decide +kernel
theorem dX5_goOneRound_76 : decode cX5_goOneRound 76 = .ok (.iload 4, 2) := by decide +kernel
theorem dX5_goOneRound_78 : decode cX5_goOneRound 78 = .ok (.aload_n 0, 1) := by decide +kernel
theorem dX5_goOneRound_79 : decode cX5_goOneRound 79 = .ok (.getfield 15, 3) := by decide +kernel
theorem dX5_goOneRound_82 : decode cX5_goOneRound 82 = .ok (.iload_n 3, 1) := by decide +kernel
theorem dX5_goOneRound_83 : decode cX5_goOneRound 83 = .ok (.iaload, 1) := by decide +kernel
theorem dX5_goOneRound_84 : decode cX5_goOneRound 84 = .ok (.invokevirtual 51, 3) := by decide +kernel
theorem dX5_goOneRound_87 : decode cX5_goOneRound 87 = .ok (.ior, 1) := by decide +kernel
theorem dX5_goOneRound_88 : decode cX5_goOneRound 88 = .ok (.ior, 1) := by decide +kernel
theorem dX5_goOneRound_89 : decode cX5_goOneRound 89 = .ok (.istore_n 1, 1) := by decide +kernel
theorem dX5_goOneRound_90 : decode cX5_goOneRound 90 = .ok (.iinc 2 1, 3) := by decide +kernel
theorem dX5_goOneRound_93 : decode cX5_goOneRound 93 = .ok (.goto (-74), 3) := by decide +kernel
theorem dX5_goOneRound_96 : decode cX5_goOneRound 96 = .ok (.iload_n 1, 1) := by decide +kernel
theorem dX5_goOneRound_97 : decode cX5_goOneRound 97 = .ok (.ireturn, 1) := by decide +kernel
set_option maxHeartbeats 4000000 in
set_option maxRecDepth 100000 in
theorem uX5_goOneRound_90 (C : CX D [(cA, .int)] p s m args meth c A cX5_goOneRound 5 RX5 (some .boolean)) (k19 : Int32 → Int32 → St → Rs) (h19 : ∀ (v1 v2 : Int32) (S : St), RU D (wX a cA) p l e 2 s m args below meth c A 5 (QI D (wX a cA) [(cA, .int)] A) (k19 v1 v2 S) 19 [] [(0, .ref (a 5)), (1, .int v1), (2, .int v2)] S) (v1 v2 : Int32) (S : St) : RU D (wX a cA) p l e 2 s m args below meth c A 5 (QI D (wX a cA) [(cA, .int)] A) (fX5_goOneRound_90 k19 v1 v2 S) 90 [] [(0, .ref (a 5)), (1, .int v1), (2, .int v2)] S := by
  unfold fX5_goOneRound_90
  refine R_iinc (v := v2 + 1) (lv' := [(2, .int (v2 + 1)), (0, .ref (a 5)), (1, .int v1)]) C dX5_goOneRound_90 2 rfl rfl (by decide) rfl ?_
  refine R_goto (tgt := 19) C dX5_goOneRound_93 (by decide) ?_
  refine R_sub [1, 2, 0] rfl ?_
  exact h19 v1 (v2 + 1) S
set_option maxHeartbeats 4000000 in
set_option maxRecDepth 100000 in
theorem uX5_goOneRound_19_b (C : CX D [(cA, .int)] p s m args meth c A cX5_goOneRound 5 RX5 (some .boolean)) (k19 : Int32 → Int32 → St → Rs) (h19 : ∀ (v1 v2 : Int32) (S : St), RU D (wX a cA) p l e 2 s m args below meth c A 5 (QI D (wX a cA) [(cA, .int)] A) (k19 v1 v2 S) 19 [] [(0, .ref (a 5)), (1, .int v1), (2, .int v2)] S) (v1 v2 : Int32) (S : St) : RU D (wX a cA) p l e 2 s m args below meth c A 5 (QI D (wX a cA) [(cA, .int)] A) (fX5_goOneRound_19_b k19 v1 v2 S) 19 [] [(0, .ref (a 5)), (1, .int v1), (2, .int v2)] S := by
  unfold fX5_goOneRound_19_b
  refine R_iload_n C dX5_goOneRound_19 rfl 2 rfl ?_
  refine R_aload_n C dX5_goOneRound_20 rfl 0 rfl ?_
  refine gtX_X5_net C wd_1_177 dX5_goOneRound_21 ?_
  refine gtX_X4_came C wd_1_66 dX5_goOneRound_24 ?_
  refine R_icmp_ge (tgt := 96) C dX5_goOneRound_27 (by decide) ?_ ?_
  · refine R_iload_n C dX5_goOneRound_96 rfl 1 rfl ?_
    exact R_retz C dX5_goOneRound_97
  · refine R_aload_n C dX5_goOneRound_30 rfl 0 rfl ?_
    refine gtX_X5_net C wd_1_177 dX5_goOneRound_31 ?_
    refine R_iload_n C dX5_goOneRound_34 rfl 2 rfl ?_
    refine R_calli (As := [.int v2]) (st := []) C (kX4_isLive l D a cA S v2) (by decide) (by decide) wd_2_186 kwX4_isLive 1 rfl rfl rfl rfl (Nat.le_of_ble_eq_true rfl) dX5_goOneRound_35 (fun r1 S2 => ?_)
    refine R_if_eq (tgt := 90) C dX5_goOneRound_38 (by decide) ?_ ?_
    · exact uX5_goOneRound_90 C k19 h19 v1 v2 S2
    · refine R_aload_n C dX5_goOneRound_41 rfl 0 rfl ?_
      refine gtX_X5_net C wd_1_177 dX5_goOneRound_42 ?_
      refine gtX_X4_firstEnd C wd_1_35 dX5_goOneRound_45 ?_
      refine R_iload_n C dX5_goOneRound_48 rfl 2 rfl ?_
      refine ldX1 C dX5_goOneRound_49 ?_
      refine R_let (fun x3 => ?_)
      refine R_istore_n (lv' := [(3, .int x3), (0, .ref (a 5)), (1, .int v1), (2, .int v2)]) C dX5_goOneRound_50 rfl (by decide) rfl ?_
      refine R_aload_n C dX5_goOneRound_51 rfl 1 rfl ?_
      refine gtX_X5_net C wd_1_177 dX5_goOneRound_52 ?_
      refine gtX_X4_secondEnd C wd_1_40 dX5_goOneRound_55 ?_
      refine R_iload_n C dX5_goOneRound_58 rfl 3 rfl ?_
      refine ldX2 C dX5_goOneRound_59 ?_
      refine R_let (fun x4 => ?_)
      refine R_istore (lv' := [(4, .int x4), (3, .int x3), (0, .ref (a 5)), (1, .int v1), (2, .int v2)]) C dX5_goOneRound_60 (by decide) rfl ?_
      refine R_iload_n C dX5_goOneRound_62 rfl 3 rfl ?_
      refine R_aload_n C dX5_goOneRound_63 rfl 2 rfl ?_
      refine R_iload_n C dX5_goOneRound_64 rfl 1 rfl ?_
      refine R_aload_n C dX5_goOneRound_65 rfl 2 rfl ?_
      refine gtX_X5_before C wd_1_180 dX5_goOneRound_66 ?_
      refine R_iload C dX5_goOneRound_69 0 rfl ?_
      refine ldX12 C dX5_goOneRound_71 ?_
      refine R_calli (As := [.int x3, .int (S2.2 12 (ix x4))]) (st := [.int v1]) C (kX5_lowerTo l D a cA S2 x3 (S2.2 12 (ix x4))) (by decide) (by decide) wd_2_187 kwX5_lowerTo 5 rfl rfl rfl rfl (Nat.le_of_ble_eq_true rfl) dX5_goOneRound_72 (fun r5 S6 => ?_)
      refine R_aload_n C dX5_goOneRound_75 rfl 2 rfl ?_
      refine R_iload C dX5_goOneRound_76 0 rfl ?_
      refine R_aload_n C dX5_goOneRound_78 rfl 2 rfl ?_
      refine gtX_X5_before C wd_1_180 dX5_goOneRound_79 ?_
      refine R_iload_n C dX5_goOneRound_82 rfl 1 rfl ?_
      refine ldX12 C dX5_goOneRound_83 ?_
      refine R_calli (As := [.int x4, .int (S6.2 12 (ix x3))]) (st := [.int r5, .int v1]) C (kX5_lowerTo l D a cA S6 x4 (S6.2 12 (ix x3))) (by decide) (by decide) wd_2_187 kwX5_lowerTo 5 rfl rfl rfl rfl (Nat.le_of_ble_eq_true rfl) dX5_goOneRound_84 (fun r7 S8 => ?_)
      refine R_ior C dX5_goOneRound_87 ?_
      refine R_ior C dX5_goOneRound_88 ?_
      refine R_let (fun x9 => ?_)
      refine R_istore_n (lv' := [(1, .int x9), (4, .int x4), (3, .int x3), (0, .ref (a 5)), (2, .int v2)]) C dX5_goOneRound_89 rfl (by decide) rfl ?_
      refine R_sub [3, 0, 4] rfl ?_
      exact uX5_goOneRound_90 C k19 h19 x9 v2 S8
set_option maxHeartbeats 4000000 in
set_option maxRecDepth 100000 in
theorem uX5_goOneRound_19 (C : CX D [(cA, .int)] p s m args meth c A cX5_goOneRound 5 RX5 (some .boolean)) : ∀ (n : Nat) (v1 v2 : Int32) (S : St), RU D (wX a cA) p l e 2 s m args below meth c A 5 (QI D (wX a cA) [(cA, .int)] A) (fX5_goOneRound_19 n v1 v2 S) 19 [] [(0, .ref (a 5)), (1, .int v1), (2, .int v2)] S := by
  intro n
  induction n with
  | zero => intro v1 v2 S; exact R_none
  | succ n ih => intro v1 v2 S; exact uX5_goOneRound_19_b C _ ih v1 v2 S
set_option maxHeartbeats 4000000 in
set_option maxRecDepth 100000 in
theorem uX5_goOneRound (C : CX D [(cA, .int)] p s m args meth c A cX5_goOneRound 5 RX5 (some .boolean)) (S : St) : RU D (wX a cA) p l e 2 s m args below meth c A 5 (QI D (wX a cA) [(cA, .int)] A) (fX5_goOneRound S) 0 [] [(0, .ref (a 5))] S := by
  unfold fX5_goOneRound
  refine R_aload_n C dX5_goOneRound_0 rfl 0 rfl ?_
  refine gtX_X5_values C wd_1_178 dX5_goOneRound_1 ?_
  refine R_iconst (v := (0 : Int32)) C dX5_goOneRound_4 (by decide) ?_
  refine R_aload_n C dX5_goOneRound_5 rfl 0 rfl ?_
  refine gtX_X5_before C wd_1_180 dX5_goOneRound_6 ?_
  refine R_iconst (v := (0 : Int32)) C dX5_goOneRound_9 (by decide) ?_
  refine R_bipush (v := (40 : Int32)) C dX5_goOneRound_10 (by decide) ?_
  refine R_copy C wd_2_183 wd_2_185 wd_2_184 wd_1_10 (by omega) (by decide) 18 19 0 rfl rfl rfl (by decide) (by decide) (S1 := sR S 12 (va_cpy (S.2 11) (S.2 12) 0 0 40)) rfl dX5_goOneRound_12 ?_
  refine R_letS (fun S1 => ?_)
  refine R_iconst (v := (0 : Int32)) C dX5_goOneRound_15 (by decide) ?_
  refine R_istore_n (lv' := [(1, .int (0 : Int32)), (0, .ref (a 5))]) C dX5_goOneRound_16 rfl (by decide) rfl ?_
  refine R_iconst (v := (0 : Int32)) C dX5_goOneRound_17 (by decide) ?_
  refine R_istore_n (lv' := [(2, .int (0 : Int32)), (1, .int (0 : Int32)), (0, .ref (a 5))]) C dX5_goOneRound_18 rfl (by decide) rfl ?_
  refine R_sub [2, 1, 0] rfl ?_
  exact uX5_goOneRound_19 C FU (0 : Int32) (0 : Int32) S1
set_option maxHeartbeats 4000000 in
set_option maxRecDepth 100000 in
theorem kX5_goOneRound (l : Launch) (D : va_G) (a : Nat → Nat) (cA : ClassId) (S : St) : CI l D (wX a cA) [(cA, .int)] yX5_goOneRound (.code yX5_goOneRound cX5_goOneRound 5 (some .boolean)) 2 [.ref (a 5)] (fX5_goOneRound S) S := CI_of rfl (Nat.le_of_ble_eq_true rfl) (fun p e s m args below meth c A C => uX5_goOneRound C S)
theorem dX5_spread_0 : decode cX5_spread 0 = .ok (.iconst 0, 1) := by decide +kernel
theorem dX5_spread_1 : decode cX5_spread 1 = .ok (.istore_n 1, 1) := by decide +kernel
theorem dX5_spread_2 : decode cX5_spread 2 = .ok (.iload_n 1, 1) := by decide +kernel
theorem dX5_spread_3 : decode cX5_spread 3 = .ok (.bipush 40, 2) := by decide +kernel
theorem dX5_spread_5 : decode cX5_spread 5 = .ok (.if_icmp .ge 16, 3) := by decide +kernel
theorem dX5_spread_8 : decode cX5_spread 8 = .ok (.aload_n 0, 1) := by decide +kernel
theorem dX5_spread_9 : decode cX5_spread 9 = .ok (.getfield 9, 3) := by decide +kernel
theorem dX5_spread_12 : decode cX5_spread 12 = .ok (.iload_n 1, 1) := by decide +kernel
theorem dX5_spread_13 : decode cX5_spread 13 = .ok (.iload_n 1, 1) := by decide +kernel
theorem dX5_spread_14 : decode cX5_spread 14 = .ok (.iastore, 1) := by decide +kernel
theorem dX5_spread_15 : decode cX5_spread 15 = .ok (.iinc 1 1, 3) := by decide +kernel
theorem dX5_spread_18 : decode cX5_spread 18 = .ok (.goto (-16), 3) := by decide +kernel
theorem dX5_spread_21 : decode cX5_spread 21 = .ok (.aload_n 0, 1) := by decide +kernel
theorem dX5_spread_22 : decode cX5_spread 22 = .ok (.iconst 0, 1) := by decide +kernel
theorem dX5_spread_23 : decode cX5_spread 23 = .ok (.putfield 22, 3) := by decide +kernel
theorem dX5_spread_26 : decode cX5_spread 26 = .ok (.iconst 1, 1) := by decide +kernel
theorem dX5_spread_27 : decode cX5_spread 27 = .ok (.istore_n 1, 1) := by decide +kernel
theorem dX5_spread_28 : decode cX5_spread 28 = .ok (.iload_n 1, 1) := by decide +kernel
theorem dX5_spread_29 : decode cX5_spread 29 = .ok (.ifCond .eq 30, 3) := by decide +kernel
theorem dX5_spread_32 : decode cX5_spread 32 = .ok (.aload_n 0, 1) := by decide +kernel
theorem dX5_spread_33 : decode cX5_spread 33 = .ok (.getfield 22, 3) := by decide +kernel
theorem dX5_spread_36 : decode cX5_spread 36 = .ok (.bipush 40, 2) := by decide +kernel
theorem dX5_spread_38 : decode cX5_spread 38 = .ok (.if_icmp .gt 21, 3) := by decide +kernel
theorem dX5_spread_41 : decode cX5_spread 41 = .ok (.aload_n 0, 1) := by decide +kernel
theorem dX5_spread_42 : decode cX5_spread 42 = .ok (.invokevirtual 26, 3) := by decide +kernel
theorem dX5_spread_45 : decode cX5_spread 45 = .ok (.istore_n 1, 1) := by decide +kernel
theorem dX5_spread_46 : decode cX5_spread 46 = .ok (.aload_n 0, 1) := by decide +kernel
theorem dX5_spread_47 : decode cX5_spread 47 = .ok (.dup, 1) := by decide +kernel
theorem dX5_spread_48 : decode cX5_spread 48 = .ok (.getfield 22, 3) := by decide +kernel
theorem dX5_spread_51 : decode cX5_spread 51 = .ok (.iconst 1, 1) := by decide +kernel
theorem dX5_spread_52 : decode cX5_spread 52 = .ok (.iadd, 1) := by decide +kernel
theorem dX5_spread_53 : decode cX5_spread 53 = .ok (.putfield 22, 3) := by decide +kernel
theorem dX5_spread_56 : decode cX5_spread 56 = .ok (.goto (-28), 3) := by decide +kernel
theorem dX5_spread_59 : decode cX5_spread 59 = .ok (.return_, 1) := by decide +kernel
set_option maxHeartbeats 4000000 in
set_option maxRecDepth 100000 in
theorem uX5_spread_59 (C : CX D [(cA, .int)] p s m args meth c A cX5_spread 2 RX5 none) (S : St) : RU D (wX a cA) p l e 3 s m args below meth c A 2 (QV D (wX a cA) [(cA, .int)] A) (fX5_spread_59 S) 59 [] [] S := by
  unfold fX5_spread_59
  exact R_retv C dX5_spread_59
set_option maxHeartbeats 4000000 in
set_option maxRecDepth 100000 in
theorem uX5_spread_28_b (C : CX D [(cA, .int)] p s m args meth c A cX5_spread 2 RX5 none) (k28 : Int32 → St → Rs) (h28 : ∀ (v1 : Int32) (S : St), RU D (wX a cA) p l e 3 s m args below meth c A 2 (QV D (wX a cA) [(cA, .int)] A) (k28 v1 S) 28 [] [(0, .ref (a 5)), (1, .int v1)] S) (v1 : Int32) (S : St) : RU D (wX a cA) p l e 3 s m args below meth c A 2 (QV D (wX a cA) [(cA, .int)] A) (fX5_spread_28_b k28 v1 S) 28 [] [(0, .ref (a 5)), (1, .int v1)] S := by
  unfold fX5_spread_28_b
  refine R_iload_n C dX5_spread_28 rfl 1 rfl ?_
  refine R_if_eq (tgt := 59) C dX5_spread_29 (by decide) ?_ ?_
  · refine R_sub [] rfl ?_
    exact uX5_spread_59 C S
  · refine R_aload_n C dX5_spread_32 rfl 0 rfl ?_
    refine gtX_X5_rounds C wd_1_181 dX5_spread_33 ?_
    refine R_bipush (v := (40 : Int32)) C dX5_spread_36 (by decide) ?_
    refine R_icmp_gt (tgt := 59) C dX5_spread_38 (by decide) ?_ ?_
    · refine R_sub [] rfl ?_
      exact uX5_spread_59 C S
    · refine R_aload_n C dX5_spread_41 rfl 0 rfl ?_
      refine R_calli (As := []) (st := []) C (kX5_goOneRound l D a cA S) (by decide) (by decide) wd_2_179 kwX5_goOneRound 5 rfl rfl rfl rfl (Nat.le_of_ble_eq_true rfl) dX5_spread_42 (fun r1 S2 => ?_)
      refine R_istore_n (lv' := [(1, .int r1), (0, .ref (a 5))]) C dX5_spread_45 rfl (by decide) rfl ?_
      refine R_aload_n C dX5_spread_46 rfl 1 rfl ?_
      refine R_dup C dX5_spread_47 rfl ?_
      refine gtX_X5_rounds C wd_1_181 dX5_spread_48 ?_
      refine R_iconst (v := (1 : Int32)) C dX5_spread_51 (by decide) ?_
      refine R_iadd C dX5_spread_52 ?_
      refine ptX_X5_rounds C wd_1_181 dX5_spread_53 ?_
      refine R_letS (fun S3 => ?_)
      refine R_goto (tgt := 28) C dX5_spread_56 (by decide) ?_
      refine R_sub [1, 0] rfl ?_
      exact h28 r1 S3
set_option maxHeartbeats 4000000 in
set_option maxRecDepth 100000 in
theorem uX5_spread_28 (C : CX D [(cA, .int)] p s m args meth c A cX5_spread 2 RX5 none) : ∀ (n : Nat) (v1 : Int32) (S : St), RU D (wX a cA) p l e 3 s m args below meth c A 2 (QV D (wX a cA) [(cA, .int)] A) (fX5_spread_28 n v1 S) 28 [] [(0, .ref (a 5)), (1, .int v1)] S := by
  intro n
  induction n with
  | zero => intro v1 S; exact R_none
  | succ n ih => intro v1 S; exact uX5_spread_28_b C _ ih v1 S
set_option maxHeartbeats 4000000 in
set_option maxRecDepth 100000 in
theorem uX5_spread_2_b (C : CX D [(cA, .int)] p s m args meth c A cX5_spread 2 RX5 none) (k2 : Int32 → St → Rs) (h2 : ∀ (v1 : Int32) (S : St), RU D (wX a cA) p l e 3 s m args below meth c A 2 (QV D (wX a cA) [(cA, .int)] A) (k2 v1 S) 2 [] [(0, .ref (a 5)), (1, .int v1)] S) (v1 : Int32) (S : St) : RU D (wX a cA) p l e 3 s m args below meth c A 2 (QV D (wX a cA) [(cA, .int)] A) (fX5_spread_2_b k2 v1 S) 2 [] [(0, .ref (a 5)), (1, .int v1)] S := by
  unfold fX5_spread_2_b
  refine R_iload_n C dX5_spread_2 rfl 1 rfl ?_
  refine R_bipush (v := (40 : Int32)) C dX5_spread_3 (by decide) ?_
  refine R_icmp_ge (tgt := 21) C dX5_spread_5 (by decide) ?_ ?_
  · refine R_aload_n C dX5_spread_21 rfl 0 rfl ?_
    refine R_iconst (v := (0 : Int32)) C dX5_spread_22 (by decide) ?_
    refine ptX_X5_rounds C wd_1_181 dX5_spread_23 ?_
    refine R_letS (fun S1 => ?_)
    refine R_iconst (v := (1 : Int32)) C dX5_spread_26 (by decide) ?_
    refine R_istore_n (lv' := [(1, .int (1 : Int32)), (0, .ref (a 5))]) C dX5_spread_27 rfl (by decide) rfl ?_
    refine R_sub [1, 0] rfl ?_
    exact uX5_spread_28 C FU (1 : Int32) S1
  · refine R_aload_n C dX5_spread_8 rfl 0 rfl ?_
    refine gtX_X5_values C wd_1_178 dX5_spread_9 ?_
    refine R_iload_n C dX5_spread_12 rfl 1 rfl ?_
    refine R_iload_n C dX5_spread_13 rfl 1 rfl ?_
    refine svX11 C dX5_spread_14 ?_
    refine R_letS (fun S2 => ?_)
    refine R_iinc (v := v1 + 1) (lv' := [(1, .int (v1 + 1)), (0, .ref (a 5))]) C dX5_spread_15 1 rfl rfl (by decide) rfl ?_
    refine R_goto (tgt := 2) C dX5_spread_18 (by decide) ?_
    refine R_sub [1, 0] rfl ?_
    exact h2 (v1 + 1) S2
set_option maxHeartbeats 4000000 in
set_option maxRecDepth 100000 in
theorem uX5_spread_2 (C : CX D [(cA, .int)] p s m args meth c A cX5_spread 2 RX5 none) : ∀ (n : Nat) (v1 : Int32) (S : St), RU D (wX a cA) p l e 3 s m args below meth c A 2 (QV D (wX a cA) [(cA, .int)] A) (fX5_spread_2 n v1 S) 2 [] [(0, .ref (a 5)), (1, .int v1)] S := by
  intro n
  induction n with
  | zero => intro v1 S; exact R_none
  | succ n ih => intro v1 S; exact uX5_spread_2_b C _ ih v1 S
set_option maxHeartbeats 4000000 in
set_option maxRecDepth 100000 in
theorem uX5_spread (C : CX D [(cA, .int)] p s m args meth c A cX5_spread 2 RX5 none) (S : St) : RU D (wX a cA) p l e 3 s m args below meth c A 2 (QV D (wX a cA) [(cA, .int)] A) (fX5_spread S) 0 [] [(0, .ref (a 5))] S := by
  unfold fX5_spread
  refine R_iconst (v := (0 : Int32)) C dX5_spread_0 (by decide) ?_
  refine R_istore_n (lv' := [(1, .int (0 : Int32)), (0, .ref (a 5))]) C dX5_spread_1 rfl (by decide) rfl ?_
  refine R_sub [1, 0] rfl ?_
  exact uX5_spread_2 C FU (0 : Int32) S
set_option maxHeartbeats 4000000 in
set_option maxRecDepth 100000 in
theorem kX5_spread (l : Launch) (D : va_G) (a : Nat → Nat) (cA : ClassId) (S : St) : CV l D (wX a cA) [(cA, .int)] yX5_spread (.code yX5_spread cX5_spread 2 none) 3 [.ref (a 5)] (fX5_spread S) S := CV_of rfl (Nat.le_of_ble_eq_true rfl) (fun p e s m args below meth c A C => uX5_spread C S)
theorem dX6_part_0 : decode cX6_part 0 = .ok (.iload_n 1, 1) := by decide +kernel
theorem dX6_part_1 : decode cX6_part 1 = .ok (.invokestatic 68, 3) := by decide +kernel
theorem dX6_part_4 : decode cX6_part 4 = .ok (.ifCond .ne 5, 3) := by decide +kernel
theorem dX6_part_7 : decode cX6_part 7 = .ok (.iconst (-1), 1) := by decide +kernel
theorem dX6_part_8 : decode cX6_part 8 = .ok (.ireturn, 1) := by decide +kernel
theorem dX6_part_9 : decode cX6_part 9 = .ok (.aload_n 0, 1) := by decide +kernel
theorem dX6_part_10 : decode cX6_part 10 = .ok (.getfield 53, 3) := by decide +kernel
theorem dX6_part_13 : decode cX6_part 13 = .ok (.invokevirtual 148, 3) := by decide +kernel
theorem dX6_part_16 : decode cX6_part 16 = .ok (.aload_n 0, 1) := by decide +kernel
theorem dX6_part_17 : decode cX6_part 17 = .ok (.getfield 53, 3) := by decide +kernel
theorem dX6_part_20 : decode cX6_part 20 = .ok (.getfield 151, 3) := by decide +kernel
theorem dX6_part_23 : decode cX6_part 23 = .ok (.iload_n 1, 1) := by decide +kernel
theorem dX6_part_24 : decode cX6_part 24 = .ok (.iaload, 1) := by decide +kernel
theorem dX6_part_25 : decode cX6_part 25 = .ok (.ireturn, 1) := by decide +kernel
set_option maxHeartbeats 4000000 in
set_option maxRecDepth 100000 in
theorem uX6_part (C : CX D [(cA, .int)] p s m args meth c A cX6_part 2 RX6 (some .int)) (v1 : Int32) (S : St) : RU D (wX a cA) p l e 4 s m args below meth c A 2 (QI D (wX a cA) [(cA, .int)] A) (fX6_part v1 S) 0 [] [(0, .ref (a 0)), (1, .int v1)] S := by
  unfold fX6_part
  refine R_iload_n C dX6_part_0 rfl 1 rfl ?_
  refine R_calls (As := [.int v1]) (st := []) C (kX6_isPoint l D a cA S v1) (by decide) (by decide) wd_1_237 kwX6_isPoint rfl rfl (Nat.le_of_ble_eq_true rfl) dX6_part_1 (fun r1 S2 => ?_)
  refine R_if_ne (tgt := 9) C dX6_part_4 (by decide) ?_ ?_
  · refine R_iconst (v := (-1 : Int32)) C dX6_part_7 (by decide) ?_
    exact R_reti C dX6_part_8
  · refine R_aload_n C dX6_part_9 rfl 0 rfl ?_
    refine gtX_X6_spreading C wd_1_209 dX6_part_10 ?_
    refine R_callv (As := []) (st := []) C (kX5_spread l D a cA S2) (by decide) (by decide) wd_2_175 kwX5_spread 5 rfl rfl rfl rfl (Nat.le_of_ble_eq_true rfl) dX6_part_13 (fun r3 S4 => ?_)
    refine R_aload_n C dX6_part_16 rfl 0 rfl ?_
    refine gtX_X6_spreading C wd_1_209 dX6_part_17 ?_
    refine gtX_X5_values C wd_1_179 dX6_part_20 ?_
    refine R_iload_n C dX6_part_23 rfl 1 rfl ?_
    refine ldX11 C dX6_part_24 ?_
    exact R_reti C dX6_part_25
set_option maxHeartbeats 4000000 in
set_option maxRecDepth 100000 in
theorem kX6_part (l : Launch) (D : va_G) (a : Nat → Nat) (cA : ClassId) (S : St) (v1 : Int32) : CI l D (wX a cA) [(cA, .int)] yX6_part (.code yX6_part cX6_part 2 (some .int)) 4 [.ref (a 0), .int v1] (fX6_part v1 S) S := CI_of rfl (Nat.le_of_ble_eq_true rfl) (fun p e s m args below meth c A C => uX6_part C v1 S)
theorem dX4_pointsWithCopies_0 : decode cX4_pointsWithCopies 0 = .ok (.iconst 0, 1) := by decide +kernel
theorem dX4_pointsWithCopies_1 : decode cX4_pointsWithCopies 1 = .ok (.istore_n 1, 1) := by decide +kernel
theorem dX4_pointsWithCopies_2 : decode cX4_pointsWithCopies 2 = .ok (.iconst 0, 1) := by decide +kernel
theorem dX4_pointsWithCopies_3 : decode cX4_pointsWithCopies 3 = .ok (.istore_n 2, 1) := by decide +kernel
theorem dX4_pointsWithCopies_4 : decode cX4_pointsWithCopies 4 = .ok (.iload_n 2, 1) := by decide +kernel
theorem dX4_pointsWithCopies_5 : decode cX4_pointsWithCopies 5 = .ok (.bipush 40, 2) := by decide +kernel
theorem dX4_pointsWithCopies_7 : decode cX4_pointsWithCopies 7 = .ok (.if_icmp .ge 21, 3) := by decide +kernel
theorem dX4_pointsWithCopies_10 : decode cX4_pointsWithCopies 10 = .ok (.aload_n 0, 1) := by decide +kernel
theorem dX4_pointsWithCopies_11 : decode cX4_pointsWithCopies 11 = .ok (.getfield 27, 3) := by decide +kernel
theorem dX4_pointsWithCopies_14 : decode cX4_pointsWithCopies 14 = .ok (.iload_n 2, 1) := by decide +kernel
theorem dX4_pointsWithCopies_15 : decode cX4_pointsWithCopies 15 = .ok (.iaload, 1) := by decide +kernel
theorem dX4_pointsWithCopies_16 : decode cX4_pointsWithCopies 16 = .ok (.ifCond .eq 6, 3) := by decide +kernel
theorem dX4_pointsWithCopies_19 : decode cX4_pointsWithCopies 19 = .ok (.iinc 1 1, 3) := by decide +kernel
theorem dX4_pointsWithCopies_22 : decode cX4_pointsWithCopies 22 = .ok (.iinc 2 1, 3) := by decide +kernel
theorem dX4_pointsWithCopies_25 : decode cX4_pointsWithCopies 25 = .ok (.goto (-21), 3) := by decide +kernel
theorem dX4_pointsWithCopies_28 : decode cX4_pointsWithCopies 28 = .ok (.iload_n 1, 1) := by decide +kernel
theorem dX4_pointsWithCopies_29 : decode cX4_pointsWithCopies 29 = .ok (.ireturn, 1) := by decide +kernel
set_option maxHeartbeats 4000000 in
set_option maxRecDepth 100000 in
theorem uX4_pointsWithCopies_22 (C : CX D [(cA, .int)] p s m args meth c A cX4_pointsWithCopies 3 RX4 (some .int)) (k4 : Int32 → Int32 → St → Rs) (h4 : ∀ (v1 v2 : Int32) (S : St), RU D (wX a cA) p l e 1 s m args below meth c A 3 (QI D (wX a cA) [(cA, .int)] A) (k4 v1 v2 S) 4 [] [(0, .ref (a 1)), (1, .int v1), (2, .int v2)] S) (v1 v2 : Int32) (S : St) : RU D (wX a cA) p l e 1 s m args below meth c A 3 (QI D (wX a cA) [(cA, .int)] A) (fX4_pointsWithCopies_22 k4 v1 v2 S) 22 [] [(0, .ref (a 1)), (1, .int v1), (2, .int v2)] S := by
  unfold fX4_pointsWithCopies_22
  refine R_iinc (v := v2 + 1) (lv' := [(2, .int (v2 + 1)), (0, .ref (a 1)), (1, .int v1)]) C dX4_pointsWithCopies_22 2 rfl rfl (by decide) rfl ?_
  refine R_goto (tgt := 4) C dX4_pointsWithCopies_25 (by decide) ?_
  refine R_sub [1, 2, 0] rfl ?_
  exact h4 v1 (v2 + 1) S
set_option maxHeartbeats 4000000 in
set_option maxRecDepth 100000 in
theorem uX4_pointsWithCopies_4_b (C : CX D [(cA, .int)] p s m args meth c A cX4_pointsWithCopies 3 RX4 (some .int)) (k4 : Int32 → Int32 → St → Rs) (h4 : ∀ (v1 v2 : Int32) (S : St), RU D (wX a cA) p l e 1 s m args below meth c A 3 (QI D (wX a cA) [(cA, .int)] A) (k4 v1 v2 S) 4 [] [(0, .ref (a 1)), (1, .int v1), (2, .int v2)] S) (v1 v2 : Int32) (S : St) : RU D (wX a cA) p l e 1 s m args below meth c A 3 (QI D (wX a cA) [(cA, .int)] A) (fX4_pointsWithCopies_4_b k4 v1 v2 S) 4 [] [(0, .ref (a 1)), (1, .int v1), (2, .int v2)] S := by
  unfold fX4_pointsWithCopies_4_b
  refine R_iload_n C dX4_pointsWithCopies_4 rfl 2 rfl ?_
  refine R_bipush (v := (40 : Int32)) C dX4_pointsWithCopies_5 (by decide) ?_
  refine R_icmp_ge (tgt := 28) C dX4_pointsWithCopies_7 (by decide) ?_ ?_
  · refine R_iload_n C dX4_pointsWithCopies_28 rfl 1 rfl ?_
    exact R_reti C dX4_pointsWithCopies_29
  · refine R_aload_n C dX4_pointsWithCopies_10 rfl 0 rfl ?_
    refine gtX_X4_copyBits C wd_1_53 dX4_pointsWithCopies_11 ?_
    refine R_iload_n C dX4_pointsWithCopies_14 rfl 2 rfl ?_
    refine ldX6 C dX4_pointsWithCopies_15 ?_
    refine R_if_eq (tgt := 22) C dX4_pointsWithCopies_16 (by decide) ?_ ?_
    · exact uX4_pointsWithCopies_22 C k4 h4 v1 v2 S
    · refine R_iinc (v := v1 + 1) (lv' := [(1, .int (v1 + 1)), (0, .ref (a 1)), (2, .int v2)]) C dX4_pointsWithCopies_19 1 rfl rfl (by decide) rfl ?_
      refine R_sub [1, 0, 2] rfl ?_
      exact uX4_pointsWithCopies_22 C k4 h4 (v1 + 1) v2 S
set_option maxHeartbeats 4000000 in
set_option maxRecDepth 100000 in
theorem uX4_pointsWithCopies_4 (C : CX D [(cA, .int)] p s m args meth c A cX4_pointsWithCopies 3 RX4 (some .int)) : ∀ (n : Nat) (v1 v2 : Int32) (S : St), RU D (wX a cA) p l e 1 s m args below meth c A 3 (QI D (wX a cA) [(cA, .int)] A) (fX4_pointsWithCopies_4 n v1 v2 S) 4 [] [(0, .ref (a 1)), (1, .int v1), (2, .int v2)] S := by
  intro n
  induction n with
  | zero => intro v1 v2 S; exact R_none
  | succ n ih => intro v1 v2 S; exact uX4_pointsWithCopies_4_b C _ ih v1 v2 S
set_option maxHeartbeats 4000000 in
set_option maxRecDepth 100000 in
theorem uX4_pointsWithCopies (C : CX D [(cA, .int)] p s m args meth c A cX4_pointsWithCopies 3 RX4 (some .int)) (S : St) : RU D (wX a cA) p l e 1 s m args below meth c A 3 (QI D (wX a cA) [(cA, .int)] A) (fX4_pointsWithCopies S) 0 [] [(0, .ref (a 1))] S := by
  unfold fX4_pointsWithCopies
  refine R_iconst (v := (0 : Int32)) C dX4_pointsWithCopies_0 (by decide) ?_
  refine R_istore_n (lv' := [(1, .int (0 : Int32)), (0, .ref (a 1))]) C dX4_pointsWithCopies_1 rfl (by decide) rfl ?_
  refine R_iconst (v := (0 : Int32)) C dX4_pointsWithCopies_2 (by decide) ?_
  refine R_istore_n (lv' := [(2, .int (0 : Int32)), (1, .int (0 : Int32)), (0, .ref (a 1))]) C dX4_pointsWithCopies_3 rfl (by decide) rfl ?_
  refine R_sub [2, 1, 0] rfl ?_
  exact uX4_pointsWithCopies_4 C FU (0 : Int32) (0 : Int32) S
set_option maxHeartbeats 4000000 in
set_option maxRecDepth 100000 in
theorem kX4_pointsWithCopies (l : Launch) (D : va_G) (a : Nat → Nat) (cA : ClassId) (S : St) : CI l D (wX a cA) [(cA, .int)] yX4_pointsWithCopies (.code yX4_pointsWithCopies cX4_pointsWithCopies 3 (some .int)) 1 [.ref (a 1)] (fX4_pointsWithCopies S) S := CI_of rfl (Nat.le_of_ble_eq_true rfl) (fun p e s m args below meth c A C => uX4_pointsWithCopies C S)
theorem dX5_letters_0 : decode cX5_letters 0 = .ok (.aload_n 0, 1) := by decide +kernel
theorem dX5_letters_1 : decode cX5_letters 1 = .ok (.getfield 18, 3) := by decide +kernel
theorem dX5_letters_4 : decode cX5_letters 4 = .ok (.getfield 55, 3) := by decide +kernel
theorem dX5_letters_7 : decode cX5_letters 7 = .ok (.aload_n 0, 1) := by decide +kernel
theorem dX5_letters_8 : decode cX5_letters 8 = .ok (.getfield 18, 3) := by decide +kernel
theorem dX5_letters_11 : decode cX5_letters 11 = .ok (.invokevirtual 58, 3) := by decide +kernel
theorem dX5_letters_14 : decode cX5_letters 14 = .ok (.isub, 1) := by decide +kernel
theorem dX5_letters_15 : decode cX5_letters 15 = .ok (.istore_n 1, 1) := by decide +kernel
theorem dX5_letters_16 : decode cX5_letters 16 = .ok (.aload_n 0, 1) := by decide +kernel
theorem dX5_letters_17 : decode cX5_letters 17 = .ok (.getfield 22, 3) := by decide +kernel
theorem dX5_letters_20 : decode cX5_letters 20 = .ok (.iconst 2, 1) := by decide +kernel
theorem dX5_letters_21 : decode cX5_letters 21 = .ok (.imul, 1) := by decide +kernel
theorem dX5_letters_22 : decode cX5_letters 22 = .ok (.iload_n 1, 1) := by decide +kernel
theorem dX5_letters_23 : decode cX5_letters 23 = .ok (.imul, 1) := by decide +kernel
theorem dX5_letters_24 : decode cX5_letters 24 = .ok (.ireturn, 1) := by decide +kernel
set_option maxHeartbeats 4000000 in
set_option maxRecDepth 100000 in
theorem uX5_letters (C : CX D [(cA, .int)] p s m args meth c A cX5_letters 2 RX5 (some .int)) (S : St) : RU D (wX a cA) p l e 2 s m args below meth c A 2 (QI D (wX a cA) [(cA, .int)] A) (fX5_letters S) 0 [] [(0, .ref (a 5))] S := by
  unfold fX5_letters
  refine R_aload_n C dX5_letters_0 rfl 0 rfl ?_
  refine gtX_X5_net C wd_1_177 dX5_letters_1 ?_
  refine gtX_X4_allCopies C wd_1_70 dX5_letters_4 ?_
  refine R_aload_n C dX5_letters_7 rfl 0 rfl ?_
  refine gtX_X5_net C wd_1_177 dX5_letters_8 ?_
  refine R_calli (As := []) (st := [.int (S.1 5)]) C (kX4_pointsWithCopies l D a cA S) (by decide) (by decide) wd_2_199 kwX4_pointsWithCopies 1 rfl rfl rfl rfl (Nat.le_of_ble_eq_true rfl) dX5_letters_11 (fun r1 S2 => ?_)
  refine R_isub C dX5_letters_14 ?_
  refine R_let (fun x3 => ?_)
  refine R_istore_n (lv' := [(1, .int x3), (0, .ref (a 5))]) C dX5_letters_15 rfl (by decide) rfl ?_
  refine R_aload_n C dX5_letters_16 rfl 1 rfl ?_
  refine gtX_X5_rounds C wd_1_181 dX5_letters_17 ?_
  refine R_iconst (v := (2 : Int32)) C dX5_letters_20 (by decide) ?_
  refine R_imul C dX5_letters_21 ?_
  refine R_iload_n C dX5_letters_22 rfl 0 rfl ?_
  refine R_imul C dX5_letters_23 ?_
  exact R_reti C dX5_letters_24
set_option maxHeartbeats 4000000 in
set_option maxRecDepth 100000 in
theorem kX5_letters (l : Launch) (D : va_G) (a : Nat → Nat) (cA : ClassId) (S : St) : CI l D (wX a cA) [(cA, .int)] yX5_letters (.code yX5_letters cX5_letters 2 (some .int)) 2 [.ref (a 5)] (fX5_letters S) S := CI_of rfl (Nat.le_of_ble_eq_true rfl) (fun p e s m args below meth c A C => uX5_letters C S)
theorem dX5_partsWithLines_0 : decode cX5_partsWithLines 0 = .ok (.iconst 0, 1) := by decide +kernel
theorem dX5_partsWithLines_1 : decode cX5_partsWithLines 1 = .ok (.istore_n 1, 1) := by decide +kernel
theorem dX5_partsWithLines_2 : decode cX5_partsWithLines 2 = .ok (.iconst 0, 1) := by decide +kernel
theorem dX5_partsWithLines_3 : decode cX5_partsWithLines 3 = .ok (.istore_n 2, 1) := by decide +kernel
theorem dX5_partsWithLines_4 : decode cX5_partsWithLines 4 = .ok (.iload_n 2, 1) := by decide +kernel
theorem dX5_partsWithLines_5 : decode cX5_partsWithLines 5 = .ok (.bipush 40, 2) := by decide +kernel
theorem dX5_partsWithLines_7 : decode cX5_partsWithLines 7 = .ok (.if_icmp .ge 34, 3) := by decide +kernel
theorem dX5_partsWithLines_10 : decode cX5_partsWithLines 10 = .ok (.aload_n 0, 1) := by decide +kernel
theorem dX5_partsWithLines_11 : decode cX5_partsWithLines 11 = .ok (.getfield 9, 3) := by decide +kernel
theorem dX5_partsWithLines_14 : decode cX5_partsWithLines 14 = .ok (.iload_n 2, 1) := by decide +kernel
theorem dX5_partsWithLines_15 : decode cX5_partsWithLines 15 = .ok (.iaload, 1) := by decide +kernel
theorem dX5_partsWithLines_16 : decode cX5_partsWithLines 16 = .ok (.iload_n 2, 1) := by decide +kernel
theorem dX5_partsWithLines_17 : decode cX5_partsWithLines 17 = .ok (.if_icmp .ne 18, 3) := by decide +kernel
theorem dX5_partsWithLines_20 : decode cX5_partsWithLines 20 = .ok (.aload_n 0, 1) := by decide +kernel
theorem dX5_partsWithLines_21 : decode cX5_partsWithLines 21 = .ok (.getfield 18, 3) := by decide +kernel
theorem dX5_partsWithLines_24 : decode cX5_partsWithLines 24 = .ok (.getfield 62, 3) := by decide +kernel
theorem dX5_partsWithLines_27 : decode cX5_partsWithLines 27 = .ok (.iload_n 2, 1) := by decide +kernel
theorem dX5_partsWithLines_28 : decode cX5_partsWithLines 28 = .ok (.iaload, 1) := by decide +kernel
theorem dX5_partsWithLines_29 : decode cX5_partsWithLines 29 = .ok (.ifCond .le 6, 3) := by decide +kernel
theorem dX5_partsWithLines_32 : decode cX5_partsWithLines 32 = .ok (.iinc 1 1, 3) := by decide +kernel
theorem dX5_partsWithLines_35 : decode cX5_partsWithLines 35 = .ok (.iinc 2 1, 3) := by decide +kernel
theorem dX5_partsWithLines_38 : decode cX5_partsWithLines 38 = .ok (.goto (-34), 3) := by decide +kernel
theorem dX5_partsWithLines_41 : decode cX5_partsWithLines 41 = .ok (.iload_n 1, 1) := by decide +kernel
theorem dX5_partsWithLines_42 : decode cX5_partsWithLines 42 = .ok (.ireturn, 1) := by decide +kernel
set_option maxHeartbeats 4000000 in
set_option maxRecDepth 100000 in
theorem uX5_partsWithLines_35 (C : CX D [(cA, .int)] p s m args meth c A cX5_partsWithLines 3 RX5 (some .int)) (k4 : Int32 → Int32 → St → Rs) (h4 : ∀ (v1 v2 : Int32) (S : St), RU D (wX a cA) p l e 1 s m args below meth c A 3 (QI D (wX a cA) [(cA, .int)] A) (k4 v1 v2 S) 4 [] [(0, .ref (a 5)), (1, .int v1), (2, .int v2)] S) (v1 v2 : Int32) (S : St) : RU D (wX a cA) p l e 1 s m args below meth c A 3 (QI D (wX a cA) [(cA, .int)] A) (fX5_partsWithLines_35 k4 v1 v2 S) 35 [] [(0, .ref (a 5)), (1, .int v1), (2, .int v2)] S := by
  unfold fX5_partsWithLines_35
  refine R_iinc (v := v2 + 1) (lv' := [(2, .int (v2 + 1)), (0, .ref (a 5)), (1, .int v1)]) C dX5_partsWithLines_35 2 rfl rfl (by decide) rfl ?_
  refine R_goto (tgt := 4) C dX5_partsWithLines_38 (by decide) ?_
  refine R_sub [1, 2, 0] rfl ?_
  exact h4 v1 (v2 + 1) S
set_option maxHeartbeats 4000000 in
set_option maxRecDepth 100000 in
theorem uX5_partsWithLines_4_b (C : CX D [(cA, .int)] p s m args meth c A cX5_partsWithLines 3 RX5 (some .int)) (k4 : Int32 → Int32 → St → Rs) (h4 : ∀ (v1 v2 : Int32) (S : St), RU D (wX a cA) p l e 1 s m args below meth c A 3 (QI D (wX a cA) [(cA, .int)] A) (k4 v1 v2 S) 4 [] [(0, .ref (a 5)), (1, .int v1), (2, .int v2)] S) (v1 v2 : Int32) (S : St) : RU D (wX a cA) p l e 1 s m args below meth c A 3 (QI D (wX a cA) [(cA, .int)] A) (fX5_partsWithLines_4_b k4 v1 v2 S) 4 [] [(0, .ref (a 5)), (1, .int v1), (2, .int v2)] S := by
  unfold fX5_partsWithLines_4_b
  refine R_iload_n C dX5_partsWithLines_4 rfl 2 rfl ?_
  refine R_bipush (v := (40 : Int32)) C dX5_partsWithLines_5 (by decide) ?_
  refine R_icmp_ge (tgt := 41) C dX5_partsWithLines_7 (by decide) ?_ ?_
  · refine R_iload_n C dX5_partsWithLines_41 rfl 1 rfl ?_
    exact R_reti C dX5_partsWithLines_42
  · refine R_aload_n C dX5_partsWithLines_10 rfl 0 rfl ?_
    refine gtX_X5_values C wd_1_178 dX5_partsWithLines_11 ?_
    refine R_iload_n C dX5_partsWithLines_14 rfl 2 rfl ?_
    refine ldX11 C dX5_partsWithLines_15 ?_
    refine R_iload_n C dX5_partsWithLines_16 rfl 2 rfl ?_
    refine R_icmp_ne (tgt := 35) C dX5_partsWithLines_17 (by decide) ?_ ?_
    · refine R_aload_n C dX5_partsWithLines_20 rfl 0 rfl ?_
      refine gtX_X5_net C wd_1_177 dX5_partsWithLines_21 ?_
      refine gtX_X4_degrees C wd_1_51 dX5_partsWithLines_24 ?_
      refine R_iload_n C dX5_partsWithLines_27 rfl 2 rfl ?_
      refine ldX5 C dX5_partsWithLines_28 ?_
      refine R_if_le (tgt := 35) C dX5_partsWithLines_29 (by decide) ?_ ?_
      · exact uX5_partsWithLines_35 C k4 h4 v1 v2 S
      · refine R_iinc (v := v1 + 1) (lv' := [(1, .int (v1 + 1)), (0, .ref (a 5)), (2, .int v2)]) C dX5_partsWithLines_32 1 rfl rfl (by decide) rfl ?_
        refine R_sub [1, 0, 2] rfl ?_
        exact uX5_partsWithLines_35 C k4 h4 (v1 + 1) v2 S
    · exact uX5_partsWithLines_35 C k4 h4 v1 v2 S
set_option maxHeartbeats 4000000 in
set_option maxRecDepth 100000 in
theorem uX5_partsWithLines_4 (C : CX D [(cA, .int)] p s m args meth c A cX5_partsWithLines 3 RX5 (some .int)) : ∀ (n : Nat) (v1 v2 : Int32) (S : St), RU D (wX a cA) p l e 1 s m args below meth c A 3 (QI D (wX a cA) [(cA, .int)] A) (fX5_partsWithLines_4 n v1 v2 S) 4 [] [(0, .ref (a 5)), (1, .int v1), (2, .int v2)] S := by
  intro n
  induction n with
  | zero => intro v1 v2 S; exact R_none
  | succ n ih => intro v1 v2 S; exact uX5_partsWithLines_4_b C _ ih v1 v2 S
set_option maxHeartbeats 4000000 in
set_option maxRecDepth 100000 in
theorem uX5_partsWithLines (C : CX D [(cA, .int)] p s m args meth c A cX5_partsWithLines 3 RX5 (some .int)) (S : St) : RU D (wX a cA) p l e 1 s m args below meth c A 3 (QI D (wX a cA) [(cA, .int)] A) (fX5_partsWithLines S) 0 [] [(0, .ref (a 5))] S := by
  unfold fX5_partsWithLines
  refine R_iconst (v := (0 : Int32)) C dX5_partsWithLines_0 (by decide) ?_
  refine R_istore_n (lv' := [(1, .int (0 : Int32)), (0, .ref (a 5))]) C dX5_partsWithLines_1 rfl (by decide) rfl ?_
  refine R_iconst (v := (0 : Int32)) C dX5_partsWithLines_2 (by decide) ?_
  refine R_istore_n (lv' := [(2, .int (0 : Int32)), (1, .int (0 : Int32)), (0, .ref (a 5))]) C dX5_partsWithLines_3 rfl (by decide) rfl ?_
  refine R_sub [2, 1, 0] rfl ?_
  exact uX5_partsWithLines_4 C FU (0 : Int32) (0 : Int32) S
set_option maxHeartbeats 4000000 in
set_option maxRecDepth 100000 in
theorem kX5_partsWithLines (l : Launch) (D : va_G) (a : Nat → Nat) (cA : ClassId) (S : St) : CI l D (wX a cA) [(cA, .int)] yX5_partsWithLines (.code yX5_partsWithLines cX5_partsWithLines 3 (some .int)) 1 [.ref (a 5)] (fX5_partsWithLines S) S := CI_of rfl (Nat.le_of_ble_eq_true rfl) (fun p e s m args below meth c A C => uX5_partsWithLines C S)
theorem dX6_run_0 : decode cX6_run 0 = .ok (.iload_n 1, 1) := by decide +kernel
theorem dX6_run_1 : decode cX6_run 1 = .ok (.ifCond .lt 8, 3) := by decide +kernel
theorem dX6_run_4 : decode cX6_run 4 = .ok (.iload_n 1, 1) := by decide +kernel
theorem dX6_run_5 : decode cX6_run 5 = .ok (.iconst 2, 1) := by decide +kernel
theorem dX6_run_6 : decode cX6_run 6 = .ok (.if_icmp .le 5, 3) := by decide +kernel
theorem dX6_run_9 : decode cX6_run 9 = .ok (.iconst (-1), 1) := by decide +kernel
theorem dX6_run_10 : decode cX6_run 10 = .ok (.ireturn, 1) := by decide +kernel
theorem dX6_run_11 : decode cX6_run 11 = .ok (.aload_n 0, 1) := by decide +kernel
theorem dX6_run_12 : decode cX6_run 12 = .ok (.getfield 53, 3) := by decide +kernel
theorem dX6_run_15 : decode cX6_run 15 = .ok (.invokevirtual 148, 3) := by decide +kernel
theorem dX6_run_18 : decode cX6_run 18 = .ok (.iload_n 1, 1) := by decide +kernel
theorem dX6_run_19 : decode cX6_run 19 = .ok (.lookupswitch 41 #[(0, 25), (1, 33)], 25) := by decide +kernel
theorem dX6_run_44 : decode cX6_run 44 = .ok (.aload_n 0, 1) := by decide +kernel
theorem dX6_run_45 : decode cX6_run 45 = .ok (.getfield 53, 3) := by decide +kernel
theorem dX6_run_48 : decode cX6_run 48 = .ok (.getfield 154, 3) := by decide +kernel
theorem dX6_run_51 : decode cX6_run 51 = .ok (.ireturn, 1) := by decide +kernel
theorem dX6_run_52 : decode cX6_run 52 = .ok (.aload_n 0, 1) := by decide +kernel
theorem dX6_run_53 : decode cX6_run 53 = .ok (.getfield 53, 3) := by decide +kernel
theorem dX6_run_56 : decode cX6_run 56 = .ok (.invokevirtual 157, 3) := by decide +kernel
theorem dX6_run_59 : decode cX6_run 59 = .ok (.ireturn, 1) := by decide +kernel
theorem dX6_run_60 : decode cX6_run 60 = .ok (.aload_n 0, 1) := by decide +kernel
theorem dX6_run_61 : decode cX6_run 61 = .ok (.getfield 53, 3) := by decide +kernel
theorem dX6_run_64 : decode cX6_run 64 = .ok (.invokevirtual 161, 3) := by decide +kernel
theorem dX6_run_67 : decode cX6_run 67 = .ok (.ireturn, 1) := by decide +kernel
set_option maxHeartbeats 4000000 in
set_option maxRecDepth 100000 in
theorem uX6_run_9 (C : CX D [(cA, .int)] p s m args meth c A cX6_run 2 RX6 (some .int)) (S : St) : RU D (wX a cA) p l e 4 s m args below meth c A 2 (QI D (wX a cA) [(cA, .int)] A) (fX6_run_9 S) 9 [] [] S := by
  unfold fX6_run_9
  refine R_iconst (v := (-1 : Int32)) C dX6_run_9 (by decide) ?_
  exact R_reti C dX6_run_10
set_option maxHeartbeats 4000000 in
set_option maxRecDepth 100000 in
theorem uX6_run (C : CX D [(cA, .int)] p s m args meth c A cX6_run 2 RX6 (some .int)) (v1 : Int32) (S : St) : RU D (wX a cA) p l e 4 s m args below meth c A 2 (QI D (wX a cA) [(cA, .int)] A) (fX6_run v1 S) 0 [] [(0, .ref (a 0)), (1, .int v1)] S := by
  unfold fX6_run
  refine R_iload_n C dX6_run_0 rfl 1 rfl ?_
  refine R_if_lt (tgt := 9) C dX6_run_1 (by decide) ?_ ?_
  · refine R_sub [] rfl ?_
    exact uX6_run_9 C S
  · refine R_iload_n C dX6_run_4 rfl 1 rfl ?_
    refine R_iconst (v := (2 : Int32)) C dX6_run_5 (by decide) ?_
    refine R_icmp_le (tgt := 11) C dX6_run_6 (by decide) ?_ ?_
    · refine R_aload_n C dX6_run_11 rfl 0 rfl ?_
      refine gtX_X6_spreading C wd_1_209 dX6_run_12 ?_
      refine R_callv (As := []) (st := []) C (kX5_spread l D a cA S) (by decide) (by decide) wd_2_175 kwX5_spread 5 rfl rfl rfl rfl (Nat.le_of_ble_eq_true rfl) dX6_run_15 (fun r1 S2 => ?_)
      refine R_iload_n C dX6_run_18 rfl 1 rfl ?_
      refine R_eq (v := 0) (fun _ => ?_) (fun q0 => ?_)
      · refine R_lsw (tgt := 44) C dX6_run_19 (by decide) (by decide +kernel : _ = (25 : Int)) (by decide) ?_
        refine R_aload_n C dX6_run_44 rfl 0 rfl ?_
        refine gtX_X6_spreading C wd_1_209 dX6_run_45 ?_
        refine gtX_X5_rounds C wd_1_182 dX6_run_48 ?_
        exact R_reti C dX6_run_51
      refine R_eq (v := 1) (fun _ => ?_) (fun q1 => ?_)
      · refine R_lsw (tgt := 52) C dX6_run_19 (by decide) (by decide +kernel : _ = (33 : Int)) (by decide) ?_
        refine R_aload_n C dX6_run_52 rfl 0 rfl ?_
        refine gtX_X6_spreading C wd_1_209 dX6_run_53 ?_
        refine R_calli (As := []) (st := []) C (kX5_letters l D a cA S2) (by decide) (by decide) wd_2_195 kwX5_letters 5 rfl rfl rfl rfl (Nat.le_of_ble_eq_true rfl) dX6_run_56 (fun r3 S4 => ?_)
        exact R_reti C dX6_run_59
      refine R_lsw (tgt := 60) C dX6_run_19 (by decide) (off := 41) (by rw [show (_ : List (Int × Int)) = _ from rfl, lv_osw q0 rfl]; rw [show (_ : List (Int × Int)) = _ from rfl, lv_osw q1 rfl]; rfl) (by decide) ?_
      refine R_aload_n C dX6_run_60 rfl 0 rfl ?_
      refine gtX_X6_spreading C wd_1_209 dX6_run_61 ?_
      refine R_calli (As := []) (st := []) C (kX5_partsWithLines l D a cA S2) (by decide) (by decide) wd_2_203 kwX5_partsWithLines 5 rfl rfl rfl rfl (Nat.le_of_ble_eq_true rfl) dX6_run_64 (fun r5 S6 => ?_)
      exact R_reti C dX6_run_67
    · refine R_sub [] rfl ?_
      exact uX6_run_9 C S
set_option maxHeartbeats 4000000 in
set_option maxRecDepth 100000 in
theorem kX6_run (l : Launch) (D : va_G) (a : Nat → Nat) (cA : ClassId) (S : St) (v1 : Int32) : CI l D (wX a cA) [(cA, .int)] yX6_run (.code yX6_run cX6_run 2 (some .int)) 4 [.ref (a 0), .int v1] (fX6_run v1 S) S := CI_of rfl (Nat.le_of_ble_eq_true rfl) (fun p e s m args below meth c A C => uX6_run C v1 S)
theorem dX2_leastMasterFor_0 : decode cX2_leastMasterFor 0 = .ok (.iconst (-1), 1) := by decide +kernel
theorem dX2_leastMasterFor_1 : decode cX2_leastMasterFor 1 = .ok (.istore_n 2, 1) := by decide +kernel
theorem dX2_leastMasterFor_2 : decode cX2_leastMasterFor 2 = .ok (.iconst 0, 1) := by decide +kernel
theorem dX2_leastMasterFor_3 : decode cX2_leastMasterFor 3 = .ok (.istore_n 3, 1) := by decide +kernel
theorem dX2_leastMasterFor_4 : decode cX2_leastMasterFor 4 = .ok (.iload_n 3, 1) := by decide +kernel
theorem dX2_leastMasterFor_5 : decode cX2_leastMasterFor 5 = .ok (.aload_n 0, 1) := by decide +kernel
theorem dX2_leastMasterFor_6 : decode cX2_leastMasterFor 6 = .ok (.getfield 15, 3) := by decide +kernel
theorem dX2_leastMasterFor_9 : decode cX2_leastMasterFor 9 = .ok (.getfield 29, 3) := by decide +kernel
theorem dX2_leastMasterFor_12 : decode cX2_leastMasterFor 12 = .ok (.if_icmp .ge 43, 3) := by decide +kernel
theorem dX2_leastMasterFor_15 : decode cX2_leastMasterFor 15 = .ok (.aload_n 0, 1) := by decide +kernel
theorem dX2_leastMasterFor_16 : decode cX2_leastMasterFor 16 = .ok (.getfield 15, 3) := by decide +kernel
theorem dX2_leastMasterFor_19 : decode cX2_leastMasterFor 19 = .ok (.iload_n 1, 1) := by decide +kernel
theorem dX2_leastMasterFor_20 : decode cX2_leastMasterFor 20 = .ok (.iload_n 3, 1) := by decide +kernel
theorem dX2_leastMasterFor_21 : decode cX2_leastMasterFor 21 = .ok (.invokevirtual 35, 3) := by decide +kernel
theorem dX2_leastMasterFor_24 : decode cX2_leastMasterFor 24 = .ok (.ifCond .eq 25, 3) := by decide +kernel
theorem dX2_leastMasterFor_27 : decode cX2_leastMasterFor 27 = .ok (.iload_n 2, 1) := by decide +kernel
theorem dX2_leastMasterFor_28 : decode cX2_leastMasterFor 28 = .ok (.iconst (-1), 1) := by decide +kernel
theorem dX2_leastMasterFor_29 : decode cX2_leastMasterFor 29 = .ok (.if_icmp .eq 18, 3) := by decide +kernel
theorem dX2_leastMasterFor_32 : decode cX2_leastMasterFor 32 = .ok (.aload_n 0, 1) := by decide +kernel
theorem dX2_leastMasterFor_33 : decode cX2_leastMasterFor 33 = .ok (.getfield 9, 3) := by decide +kernel
theorem dX2_leastMasterFor_36 : decode cX2_leastMasterFor 36 = .ok (.iload_n 3, 1) := by decide +kernel
theorem dX2_leastMasterFor_37 : decode cX2_leastMasterFor 37 = .ok (.iaload, 1) := by decide +kernel
theorem dX2_leastMasterFor_38 : decode cX2_leastMasterFor 38 = .ok (.aload_n 0, 1) := by decide +kernel
theorem dX2_leastMasterFor_39 : decode cX2_leastMasterFor 39 = .ok (.getfield 9, 3) := by decide +kernel
theorem dX2_leastMasterFor_42 : decode cX2_leastMasterFor 42 = .ok (.iload_n 2, 1) := by decide +kernel
theorem dX2_leastMasterFor_43 : decode cX2_leastMasterFor 43 = .ok (.iaload, 1) := by decide +kernel
theorem dX2_leastMasterFor_44 : decode cX2_leastMasterFor 44 = .ok (.if_icmp .ge 5, 3) := by decide +kernel
theorem dX2_leastMasterFor_47 : decode cX2_leastMasterFor 47 = .ok (.iload_n 3, 1) := by decide +kernel
theorem dX2_leastMasterFor_48 : decode cX2_leastMasterFor 48 = .ok (.istore_n 2, 1) := by decide +kernel
theorem dX2_leastMasterFor_49 : decode cX2_leastMasterFor 49 = .ok (.iinc 3 1, 3) := by decide +kernel
theorem dX2_leastMasterFor_52 : decode cX2_leastMasterFor 52 = .ok (.goto (-48), 3) := by decide +kernel
theorem dX2_leastMasterFor_55 : decode cX2_leastMasterFor 55 = .ok (.iload_n 2, 1) := by decide +kernel
theorem dX2_leastMasterFor_56 : decode cX2_leastMasterFor 56 = .ok (.ireturn, 1) := by decide +kernel
set_option maxHeartbeats 4000000 in
set_option maxRecDepth 100000 in
theorem uX2_leastMasterFor_49 (C : CX D [(cA, .int)] p s m args meth c A cX2_leastMasterFor 4 RX2 (some .int)) (k4 : Int32 → Int32 → Int32 → St → Rs) (h4 : ∀ (v1 v2 v3 : Int32) (S : St), RU D (wX a cA) p l e 2 s m args below meth c A 4 (QI D (wX a cA) [(cA, .int)] A) (k4 v1 v2 v3 S) 4 [] [(0, .ref (a 6)), (1, .int v1), (2, .int v2), (3, .int v3)] S) (v1 v2 v3 : Int32) (S : St) : RU D (wX a cA) p l e 2 s m args below meth c A 4 (QI D (wX a cA) [(cA, .int)] A) (fX2_leastMasterFor_49 k4 v1 v2 v3 S) 49 [] [(0, .ref (a 6)), (1, .int v1), (2, .int v2), (3, .int v3)] S := by
  unfold fX2_leastMasterFor_49
  refine R_iinc (v := v3 + 1) (lv' := [(3, .int (v3 + 1)), (0, .ref (a 6)), (1, .int v1), (2, .int v2)]) C dX2_leastMasterFor_49 3 rfl rfl (by decide) rfl ?_
  refine R_goto (tgt := 4) C dX2_leastMasterFor_52 (by decide) ?_
  refine R_sub [1, 2, 3, 0] rfl ?_
  exact h4 v1 v2 (v3 + 1) S
set_option maxHeartbeats 4000000 in
set_option maxRecDepth 100000 in
theorem uX2_leastMasterFor_47 (C : CX D [(cA, .int)] p s m args meth c A cX2_leastMasterFor 4 RX2 (some .int)) (k4 : Int32 → Int32 → Int32 → St → Rs) (h4 : ∀ (v1 v2 v3 : Int32) (S : St), RU D (wX a cA) p l e 2 s m args below meth c A 4 (QI D (wX a cA) [(cA, .int)] A) (k4 v1 v2 v3 S) 4 [] [(0, .ref (a 6)), (1, .int v1), (2, .int v2), (3, .int v3)] S) (v1 v3 : Int32) (S : St) : RU D (wX a cA) p l e 2 s m args below meth c A 4 (QI D (wX a cA) [(cA, .int)] A) (fX2_leastMasterFor_47 k4 v1 v3 S) 47 [] [(0, .ref (a 6)), (1, .int v1), (3, .int v3)] S := by
  unfold fX2_leastMasterFor_47
  refine R_iload_n C dX2_leastMasterFor_47 rfl 2 rfl ?_
  refine R_istore_n (lv' := [(2, .int v3), (0, .ref (a 6)), (1, .int v1), (3, .int v3)]) C dX2_leastMasterFor_48 rfl (by decide) rfl ?_
  refine R_sub [1, 2, 0, 3] rfl ?_
  exact uX2_leastMasterFor_49 C k4 h4 v1 v3 v3 S
set_option maxHeartbeats 4000000 in
set_option maxRecDepth 100000 in
theorem uX2_leastMasterFor_4_b (C : CX D [(cA, .int)] p s m args meth c A cX2_leastMasterFor 4 RX2 (some .int)) (k4 : Int32 → Int32 → Int32 → St → Rs) (h4 : ∀ (v1 v2 v3 : Int32) (S : St), RU D (wX a cA) p l e 2 s m args below meth c A 4 (QI D (wX a cA) [(cA, .int)] A) (k4 v1 v2 v3 S) 4 [] [(0, .ref (a 6)), (1, .int v1), (2, .int v2), (3, .int v3)] S) (v1 v2 v3 : Int32) (S : St) : RU D (wX a cA) p l e 2 s m args below meth c A 4 (QI D (wX a cA) [(cA, .int)] A) (fX2_leastMasterFor_4_b k4 v1 v2 v3 S) 4 [] [(0, .ref (a 6)), (1, .int v1), (2, .int v2), (3, .int v3)] S := by
  unfold fX2_leastMasterFor_4_b
  refine R_iload_n C dX2_leastMasterFor_4 rfl 3 rfl ?_
  refine R_aload_n C dX2_leastMasterFor_5 rfl 0 rfl ?_
  refine gtX_X2_net C wd_1_198 dX2_leastMasterFor_6 ?_
  refine gtX_X4_hosts C wd_1_58 dX2_leastMasterFor_9 ?_
  refine R_icmp_ge (tgt := 55) C dX2_leastMasterFor_12 (by decide) ?_ ?_
  · refine R_iload_n C dX2_leastMasterFor_55 rfl 2 rfl ?_
    exact R_reti C dX2_leastMasterFor_56
  · refine R_aload_n C dX2_leastMasterFor_15 rfl 0 rfl ?_
    refine gtX_X2_net C wd_1_198 dX2_leastMasterFor_16 ?_
    refine R_iload_n C dX2_leastMasterFor_19 rfl 1 rfl ?_
    refine R_iload_n C dX2_leastMasterFor_20 rfl 3 rfl ?_
    refine R_calli (As := [.int v1, .int v3]) (st := []) C (kX4_hasCopy l D a cA S v1 v3) (by decide) (by decide) wd_2_222 kwX4_hasCopy 1 rfl rfl rfl rfl (Nat.le_of_ble_eq_true rfl) dX2_leastMasterFor_21 (fun r1 S2 => ?_)
    refine R_if_eq (tgt := 49) C dX2_leastMasterFor_24 (by decide) ?_ ?_
    · exact uX2_leastMasterFor_49 C k4 h4 v1 v2 v3 S2
    · refine R_iload_n C dX2_leastMasterFor_27 rfl 2 rfl ?_
      refine R_iconst (v := (-1 : Int32)) C dX2_leastMasterFor_28 (by decide) ?_
      refine R_icmp_eq (tgt := 47) C dX2_leastMasterFor_29 (by decide) ?_ ?_
      · refine R_sub [0, 1, 3] rfl ?_
        exact uX2_leastMasterFor_47 C k4 h4 v1 v3 S2
      · refine R_aload_n C dX2_leastMasterFor_32 rfl 0 rfl ?_
        refine gtX_X2_mastered C wd_1_199 dX2_leastMasterFor_33 ?_
        refine R_iload_n C dX2_leastMasterFor_36 rfl 3 rfl ?_
        refine ldX13 C dX2_leastMasterFor_37 ?_
        refine R_aload_n C dX2_leastMasterFor_38 rfl 0 rfl ?_
        refine gtX_X2_mastered C wd_1_199 dX2_leastMasterFor_39 ?_
        refine R_iload_n C dX2_leastMasterFor_42 rfl 2 rfl ?_
        refine ldX13 C dX2_leastMasterFor_43 ?_
        refine R_icmp_ge (tgt := 49) C dX2_leastMasterFor_44 (by decide) ?_ ?_
        · exact uX2_leastMasterFor_49 C k4 h4 v1 v2 v3 S2
        · refine R_sub [0, 1, 3] rfl ?_
          exact uX2_leastMasterFor_47 C k4 h4 v1 v3 S2
set_option maxHeartbeats 4000000 in
set_option maxRecDepth 100000 in
theorem uX2_leastMasterFor_4 (C : CX D [(cA, .int)] p s m args meth c A cX2_leastMasterFor 4 RX2 (some .int)) : ∀ (n : Nat) (v1 v2 v3 : Int32) (S : St), RU D (wX a cA) p l e 2 s m args below meth c A 4 (QI D (wX a cA) [(cA, .int)] A) (fX2_leastMasterFor_4 n v1 v2 v3 S) 4 [] [(0, .ref (a 6)), (1, .int v1), (2, .int v2), (3, .int v3)] S := by
  intro n
  induction n with
  | zero => intro v1 v2 v3 S; exact R_none
  | succ n ih => intro v1 v2 v3 S; exact uX2_leastMasterFor_4_b C _ ih v1 v2 v3 S
set_option maxHeartbeats 4000000 in
set_option maxRecDepth 100000 in
theorem uX2_leastMasterFor (C : CX D [(cA, .int)] p s m args meth c A cX2_leastMasterFor 4 RX2 (some .int)) (v1 : Int32) (S : St) : RU D (wX a cA) p l e 2 s m args below meth c A 4 (QI D (wX a cA) [(cA, .int)] A) (fX2_leastMasterFor v1 S) 0 [] [(0, .ref (a 6)), (1, .int v1)] S := by
  unfold fX2_leastMasterFor
  refine R_iconst (v := (-1 : Int32)) C dX2_leastMasterFor_0 (by decide) ?_
  refine R_istore_n (lv' := [(2, .int (-1 : Int32)), (0, .ref (a 6)), (1, .int v1)]) C dX2_leastMasterFor_1 rfl (by decide) rfl ?_
  refine R_iconst (v := (0 : Int32)) C dX2_leastMasterFor_2 (by decide) ?_
  refine R_istore_n (lv' := [(3, .int (0 : Int32)), (2, .int (-1 : Int32)), (0, .ref (a 6)), (1, .int v1)]) C dX2_leastMasterFor_3 rfl (by decide) rfl ?_
  refine R_sub [2, 3, 1, 0] rfl ?_
  exact uX2_leastMasterFor_4 C FU v1 (-1 : Int32) (0 : Int32) S
set_option maxHeartbeats 4000000 in
set_option maxRecDepth 100000 in
theorem kX2_leastMasterFor (l : Launch) (D : va_G) (a : Nat → Nat) (cA : ClassId) (S : St) (v1 : Int32) : CI l D (wX a cA) [(cA, .int)] yX2_leastMasterFor (.code yX2_leastMasterFor cX2_leastMasterFor 4 (some .int)) 2 [.ref (a 6), .int v1] (fX2_leastMasterFor v1 S) S := CI_of rfl (Nat.le_of_ble_eq_true rfl) (fun p e s m args below meth c A C => uX2_leastMasterFor C v1 S)
theorem dX2_masterOf_0 : decode cX2_masterOf 0 = .ok (.aload_n 0, 1) := by decide +kernel
theorem dX2_masterOf_1 : decode cX2_masterOf 1 = .ok (.getfield 9, 3) := by decide +kernel
theorem dX2_masterOf_4 : decode cX2_masterOf 4 = .ok (.iconst 0, 1) := by decide +kernel
theorem dX2_masterOf_5 : decode cX2_masterOf 5 = .ok (.invokestatic 19, 3) := by decide +kernel
theorem dX2_masterOf_8 : decode cX2_masterOf 8 = .ok (.iconst (-1), 1) := by decide +kernel
theorem dX2_masterOf_9 : decode cX2_masterOf 9 = .ok (.istore_n 2, 1) := by decide +kernel
theorem dX2_masterOf_10 : decode cX2_masterOf 10 = .ok (.iconst 0, 1) := by decide +kernel
theorem dX2_masterOf_11 : decode cX2_masterOf 11 = .ok (.istore_n 3, 1) := by decide +kernel
theorem dX2_masterOf_12 : decode cX2_masterOf 12 = .ok (.iload_n 3, 1) := by decide +kernel
theorem dX2_masterOf_13 : decode cX2_masterOf 13 = .ok (.iload_n 1, 1) := by decide +kernel
theorem dX2_masterOf_14 : decode cX2_masterOf 14 = .ok (.if_icmp .gt 30, 3) := by decide +kernel
theorem dX2_masterOf_17 : decode cX2_masterOf 17 = .ok (.aload_n 0, 1) := by decide +kernel
theorem dX2_masterOf_18 : decode cX2_masterOf 18 = .ok (.iload_n 3, 1) := by decide +kernel
theorem dX2_masterOf_19 : decode cX2_masterOf 19 = .ok (.invokevirtual 25, 3) := by decide +kernel
theorem dX2_masterOf_22 : decode cX2_masterOf 22 = .ok (.istore_n 2, 1) := by decide +kernel
theorem dX2_masterOf_23 : decode cX2_masterOf 23 = .ok (.iload_n 2, 1) := by decide +kernel
theorem dX2_masterOf_24 : decode cX2_masterOf 24 = .ok (.iconst (-1), 1) := by decide +kernel
theorem dX2_masterOf_25 : decode cX2_masterOf 25 = .ok (.if_icmp .eq 13, 3) := by decide +kernel
theorem dX2_masterOf_28 : decode cX2_masterOf 28 = .ok (.aload_n 0, 1) := by decide +kernel
theorem dX2_masterOf_29 : decode cX2_masterOf 29 = .ok (.getfield 9, 3) := by decide +kernel
theorem dX2_masterOf_32 : decode cX2_masterOf 32 = .ok (.iload_n 2, 1) := by decide +kernel
theorem dX2_masterOf_33 : decode cX2_masterOf 33 = .ok (.dup2, 1) := by decide +kernel
theorem dX2_masterOf_34 : decode cX2_masterOf 34 = .ok (.iaload, 1) := by decide +kernel
theorem dX2_masterOf_35 : decode cX2_masterOf 35 = .ok (.iconst 1, 1) := by decide +kernel
theorem dX2_masterOf_36 : decode cX2_masterOf 36 = .ok (.iadd, 1) := by decide +kernel
theorem dX2_masterOf_37 : decode cX2_masterOf 37 = .ok (.iastore, 1) := by decide +kernel
theorem dX2_masterOf_38 : decode cX2_masterOf 38 = .ok (.iinc 3 1, 3) := by decide +kernel
theorem dX2_masterOf_41 : decode cX2_masterOf 41 = .ok (.goto (-29), 3) := by decide +kernel
theorem dX2_masterOf_44 : decode cX2_masterOf 44 = .ok (.iload_n 2, 1) := by decide +kernel
theorem dX2_masterOf_45 : decode cX2_masterOf 45 = .ok (.ireturn, 1) := by decide +kernel
set_option maxHeartbeats 4000000 in
set_option maxRecDepth 100000 in
theorem uX2_masterOf_38 (C : CX D [(cA, .int)] p s m args meth c A cX2_masterOf 4 RX2 (some .int)) (k12 : Int32 → Int32 → Int32 → St → Rs) (h12 : ∀ (v1 v2 v3 : Int32) (S : St), RU D (wX a cA) p l e 3 s m args below meth c A 4 (QI D (wX a cA) [(cA, .int)] A) (k12 v1 v2 v3 S) 12 [] [(0, .ref (a 6)), (1, .int v1), (2, .int v2), (3, .int v3)] S) (v1 v2 v3 : Int32) (S : St) : RU D (wX a cA) p l e 3 s m args below meth c A 4 (QI D (wX a cA) [(cA, .int)] A) (fX2_masterOf_38 k12 v1 v2 v3 S) 38 [] [(0, .ref (a 6)), (1, .int v1), (2, .int v2), (3, .int v3)] S := by
  unfold fX2_masterOf_38
  refine R_iinc (v := v3 + 1) (lv' := [(3, .int (v3 + 1)), (0, .ref (a 6)), (1, .int v1), (2, .int v2)]) C dX2_masterOf_38 3 rfl rfl (by decide) rfl ?_
  refine R_goto (tgt := 12) C dX2_masterOf_41 (by decide) ?_
  refine R_sub [1, 2, 3, 0] rfl ?_
  exact h12 v1 v2 (v3 + 1) S
set_option maxHeartbeats 4000000 in
set_option maxRecDepth 100000 in
theorem uX2_masterOf_12_b (C : CX D [(cA, .int)] p s m args meth c A cX2_masterOf 4 RX2 (some .int)) (k12 : Int32 → Int32 → Int32 → St → Rs) (h12 : ∀ (v1 v2 v3 : Int32) (S : St), RU D (wX a cA) p l e 3 s m args below meth c A 4 (QI D (wX a cA) [(cA, .int)] A) (k12 v1 v2 v3 S) 12 [] [(0, .ref (a 6)), (1, .int v1), (2, .int v2), (3, .int v3)] S) (v1 v2 v3 : Int32) (S : St) : RU D (wX a cA) p l e 3 s m args below meth c A 4 (QI D (wX a cA) [(cA, .int)] A) (fX2_masterOf_12_b k12 v1 v2 v3 S) 12 [] [(0, .ref (a 6)), (1, .int v1), (2, .int v2), (3, .int v3)] S := by
  unfold fX2_masterOf_12_b
  refine R_iload_n C dX2_masterOf_12 rfl 3 rfl ?_
  refine R_iload_n C dX2_masterOf_13 rfl 1 rfl ?_
  refine R_icmp_gt (tgt := 44) C dX2_masterOf_14 (by decide) ?_ ?_
  · refine R_iload_n C dX2_masterOf_44 rfl 2 rfl ?_
    exact R_reti C dX2_masterOf_45
  · refine R_aload_n C dX2_masterOf_17 rfl 0 rfl ?_
    refine R_iload_n C dX2_masterOf_18 rfl 3 rfl ?_
    refine R_calli (As := [.int v3]) (st := []) C (kX2_leastMasterFor l D a cA S v3) (by decide) (by decide) wd_2_218 kwX2_leastMasterFor 6 rfl rfl rfl rfl (Nat.le_of_ble_eq_true rfl) dX2_masterOf_19 (fun r1 S2 => ?_)
    refine R_istore_n (lv' := [(2, .int r1), (0, .ref (a 6)), (1, .int v1), (3, .int v3)]) C dX2_masterOf_22 rfl (by decide) rfl ?_
    refine R_iload_n C dX2_masterOf_23 rfl 0 rfl ?_
    refine R_iconst (v := (-1 : Int32)) C dX2_masterOf_24 (by decide) ?_
    refine R_icmp_eq (tgt := 38) C dX2_masterOf_25 (by decide) ?_ ?_
    · refine R_sub [1, 2, 0, 3] rfl ?_
      exact uX2_masterOf_38 C k12 h12 v1 r1 v3 S2
    · refine R_aload_n C dX2_masterOf_28 rfl 1 rfl ?_
      refine gtX_X2_mastered C wd_1_199 dX2_masterOf_29 ?_
      refine R_iload_n C dX2_masterOf_32 rfl 0 rfl ?_
      refine R_dup2 C dX2_masterOf_33 rfl rfl ?_
      refine ldX13 C dX2_masterOf_34 ?_
      refine R_iconst (v := (1 : Int32)) C dX2_masterOf_35 (by decide) ?_
      refine R_iadd C dX2_masterOf_36 ?_
      refine svX13 C dX2_masterOf_37 ?_
      refine R_letS (fun S3 => ?_)
      refine R_sub [1, 2, 0, 3] rfl ?_
      exact uX2_masterOf_38 C k12 h12 v1 r1 v3 S3
set_option maxHeartbeats 4000000 in
set_option maxRecDepth 100000 in
theorem uX2_masterOf_12 (C : CX D [(cA, .int)] p s m args meth c A cX2_masterOf 4 RX2 (some .int)) : ∀ (n : Nat) (v1 v2 v3 : Int32) (S : St), RU D (wX a cA) p l e 3 s m args below meth c A 4 (QI D (wX a cA) [(cA, .int)] A) (fX2_masterOf_12 n v1 v2 v3 S) 12 [] [(0, .ref (a 6)), (1, .int v1), (2, .int v2), (3, .int v3)] S := by
  intro n
  induction n with
  | zero => intro v1 v2 v3 S; exact R_none
  | succ n ih => intro v1 v2 v3 S; exact uX2_masterOf_12_b C _ ih v1 v2 v3 S
set_option maxHeartbeats 4000000 in
set_option maxRecDepth 100000 in
theorem uX2_masterOf (C : CX D [(cA, .int)] p s m args meth c A cX2_masterOf 4 RX2 (some .int)) (v1 : Int32) (S : St) : RU D (wX a cA) p l e 3 s m args below meth c A 4 (QI D (wX a cA) [(cA, .int)] A) (fX2_masterOf v1 S) 0 [] [(0, .ref (a 6)), (1, .int v1)] S := by
  unfold fX2_masterOf
  refine R_aload_n C dX2_masterOf_0 rfl 0 rfl ?_
  refine gtX_X2_mastered C wd_1_199 dX2_masterOf_1 ?_
  refine R_iconst (v := (0 : Int32)) C dX2_masterOf_4 (by decide) ?_
  refine R_callsv (As := [.ref (a 20), .int (0 : Int32)]) (st := []) C (kJ7_fill_53178 l D a cA S (0 : Int32)) (by decide) (by decide) wd_2_215 kwJ7_fill_53178 rfl rfl (Nat.le_of_ble_eq_true rfl) dX2_masterOf_5 (fun r1 S2 => ?_)
  refine R_iconst (v := (-1 : Int32)) C dX2_masterOf_8 (by decide) ?_
  refine R_istore_n (lv' := [(2, .int (-1 : Int32)), (0, .ref (a 6)), (1, .int v1)]) C dX2_masterOf_9 rfl (by decide) rfl ?_
  refine R_iconst (v := (0 : Int32)) C dX2_masterOf_10 (by decide) ?_
  refine R_istore_n (lv' := [(3, .int (0 : Int32)), (2, .int (-1 : Int32)), (0, .ref (a 6)), (1, .int v1)]) C dX2_masterOf_11 rfl (by decide) rfl ?_
  refine R_sub [2, 3, 1, 0] rfl ?_
  exact uX2_masterOf_12 C FU v1 (-1 : Int32) (0 : Int32) S2
set_option maxHeartbeats 4000000 in
set_option maxRecDepth 100000 in
theorem kX2_masterOf (l : Launch) (D : va_G) (a : Nat → Nat) (cA : ClassId) (S : St) (v1 : Int32) : CI l D (wX a cA) [(cA, .int)] yX2_masterOf (.code yX2_masterOf cX2_masterOf 4 (some .int)) 3 [.ref (a 6), .int v1] (fX2_masterOf v1 S) S := CI_of rfl (Nat.le_of_ble_eq_true rfl) (fun p e s m args below meth c A C => uX2_masterOf C v1 S)
theorem dX6_master_0 : decode cX6_master 0 = .ok (.iload_n 1, 1) := by decide +kernel
theorem dX6_master_1 : decode cX6_master 1 = .ok (.invokestatic 68, 3) := by decide +kernel
theorem dX6_master_4 : decode cX6_master 4 = .ok (.ifCond .eq 14, 3) := by decide +kernel
theorem dX6_master_7 : decode cX6_master 7 = .ok (.aload_n 0, 1) := by decide +kernel
theorem dX6_master_8 : decode cX6_master 8 = .ok (.getfield 60, 3) := by decide +kernel
theorem dX6_master_11 : decode cX6_master 11 = .ok (.iload_n 1, 1) := by decide +kernel
theorem dX6_master_12 : decode cX6_master 12 = .ok (.invokevirtual 164, 3) := by decide +kernel
theorem dX6_master_15 : decode cX6_master 15 = .ok (.goto 4, 3) := by decide +kernel
theorem dX6_master_18 : decode cX6_master 18 = .ok (.iconst (-1), 1) := by decide +kernel
theorem dX6_master_19 : decode cX6_master 19 = .ok (.ireturn, 1) := by decide +kernel
set_option maxHeartbeats 4000000 in
set_option maxRecDepth 100000 in
theorem uX6_master_19 (C : CX D [(cA, .int)] p s m args meth c A cX6_master 2 RX6 (some .int)) (t0 : Int32) (S : St) : RU D (wX a cA) p l e 4 s m args below meth c A 2 (QI D (wX a cA) [(cA, .int)] A) (fX6_master_19 t0 S) 19 [.int t0] [] S := by
  unfold fX6_master_19
  exact R_reti C dX6_master_19
set_option maxHeartbeats 4000000 in
set_option maxRecDepth 100000 in
theorem uX6_master (C : CX D [(cA, .int)] p s m args meth c A cX6_master 2 RX6 (some .int)) (v1 : Int32) (S : St) : RU D (wX a cA) p l e 4 s m args below meth c A 2 (QI D (wX a cA) [(cA, .int)] A) (fX6_master v1 S) 0 [] [(0, .ref (a 0)), (1, .int v1)] S := by
  unfold fX6_master
  refine R_iload_n C dX6_master_0 rfl 1 rfl ?_
  refine R_calls (As := [.int v1]) (st := []) C (kX6_isPoint l D a cA S v1) (by decide) (by decide) wd_1_237 kwX6_isPoint rfl rfl (Nat.le_of_ble_eq_true rfl) dX6_master_1 (fun r1 S2 => ?_)
  refine R_if_eq (tgt := 18) C dX6_master_4 (by decide) ?_ ?_
  · refine R_iconst (v := (-1 : Int32)) C dX6_master_18 (by decide) ?_
    refine R_sub [] rfl ?_
    exact uX6_master_19 C (-1 : Int32) S2
  · refine R_aload_n C dX6_master_7 rfl 0 rfl ?_
    refine gtX_X6_mastering C wd_1_210 dX6_master_8 ?_
    refine R_iload_n C dX6_master_11 rfl 1 rfl ?_
    refine R_calli (As := [.int v1]) (st := []) C (kX2_masterOf l D a cA S2 v1) (by decide) (by decide) wd_2_211 kwX2_masterOf 6 rfl rfl rfl rfl (Nat.le_of_ble_eq_true rfl) dX6_master_12 (fun r3 S4 => ?_)
    refine R_goto (tgt := 19) C dX6_master_15 (by decide) ?_
    refine R_sub [] rfl ?_
    exact uX6_master_19 C r3 S4
set_option maxHeartbeats 4000000 in
set_option maxRecDepth 100000 in
theorem kX6_master (l : Launch) (D : va_G) (a : Nat → Nat) (cA : ClassId) (S : St) (v1 : Int32) : CI l D (wX a cA) [(cA, .int)] yX6_master (.code yX6_master cX6_master 2 (some .int)) 4 [.ref (a 0), .int v1] (fX6_master v1 S) S := CI_of rfl (Nat.le_of_ble_eq_true rfl) (fun p e s m args below meth c A C => uX6_master C v1 S)
theorem dX4_leastLoad_0 : decode cX4_leastLoad 0 = .ok (.aload_n 0, 1) := by decide +kernel
theorem dX4_leastLoad_1 : decode cX4_leastLoad 1 = .ok (.getfield 44, 3) := by decide +kernel
theorem dX4_leastLoad_4 : decode cX4_leastLoad 4 = .ok (.istore_n 1, 1) := by decide +kernel
theorem dX4_leastLoad_5 : decode cX4_leastLoad 5 = .ok (.iconst 0, 1) := by decide +kernel
theorem dX4_leastLoad_6 : decode cX4_leastLoad 6 = .ok (.istore_n 2, 1) := by decide +kernel
theorem dX4_leastLoad_7 : decode cX4_leastLoad 7 = .ok (.iload_n 2, 1) := by decide +kernel
theorem dX4_leastLoad_8 : decode cX4_leastLoad 8 = .ok (.aload_n 0, 1) := by decide +kernel
theorem dX4_leastLoad_9 : decode cX4_leastLoad 9 = .ok (.getfield 33, 3) := by decide +kernel
theorem dX4_leastLoad_12 : decode cX4_leastLoad 12 = .ok (.if_icmp .ge 20, 3) := by decide +kernel
theorem dX4_leastLoad_15 : decode cX4_leastLoad 15 = .ok (.iload_n 1, 1) := by decide +kernel
theorem dX4_leastLoad_16 : decode cX4_leastLoad 16 = .ok (.aload_n 0, 1) := by decide +kernel
theorem dX4_leastLoad_17 : decode cX4_leastLoad 17 = .ok (.getfield 21, 3) := by decide +kernel
theorem dX4_leastLoad_20 : decode cX4_leastLoad 20 = .ok (.iload_n 2, 1) := by decide +kernel
theorem dX4_leastLoad_21 : decode cX4_leastLoad 21 = .ok (.iaload, 1) := by decide +kernel
theorem dX4_leastLoad_22 : decode cX4_leastLoad 22 = .ok (.invokestatic 72, 3) := by decide +kernel
theorem dX4_leastLoad_25 : decode cX4_leastLoad 25 = .ok (.istore_n 1, 1) := by decide +kernel
theorem dX4_leastLoad_26 : decode cX4_leastLoad 26 = .ok (.iinc 2 1, 3) := by decide +kernel
theorem dX4_leastLoad_29 : decode cX4_leastLoad 29 = .ok (.goto (-22), 3) := by decide +kernel
theorem dX4_leastLoad_32 : decode cX4_leastLoad 32 = .ok (.iload_n 1, 1) := by decide +kernel
theorem dX4_leastLoad_33 : decode cX4_leastLoad 33 = .ok (.ireturn, 1) := by decide +kernel
set_option maxHeartbeats 4000000 in
set_option maxRecDepth 100000 in
theorem uX4_leastLoad_7_b (C : CX D [(cA, .int)] p s m args meth c A cX4_leastLoad 3 RX4 (some .int)) (k7 : Int32 → Int32 → St → Rs) (h7 : ∀ (v1 v2 : Int32) (S : St), RU D (wX a cA) p l e 1 s m args below meth c A 3 (QI D (wX a cA) [(cA, .int)] A) (k7 v1 v2 S) 7 [] [(0, .ref (a 1)), (1, .int v1), (2, .int v2)] S) (v1 v2 : Int32) (S : St) : RU D (wX a cA) p l e 1 s m args below meth c A 3 (QI D (wX a cA) [(cA, .int)] A) (fX4_leastLoad_7_b k7 v1 v2 S) 7 [] [(0, .ref (a 1)), (1, .int v1), (2, .int v2)] S := by
  unfold fX4_leastLoad_7_b
  refine R_iload_n C dX4_leastLoad_7 rfl 2 rfl ?_
  refine R_aload_n C dX4_leastLoad_8 rfl 0 rfl ?_
  refine gtX_X4_hosts C wd_1_56 dX4_leastLoad_9 ?_
  refine R_icmp_ge (tgt := 32) C dX4_leastLoad_12 (by decide) ?_ ?_
  · refine R_iload_n C dX4_leastLoad_32 rfl 1 rfl ?_
    exact R_reti C dX4_leastLoad_33
  · refine R_iload_n C dX4_leastLoad_15 rfl 1 rfl ?_
    refine R_aload_n C dX4_leastLoad_16 rfl 0 rfl ?_
    refine gtX_X4_loads C wd_1_45 dX4_leastLoad_17 ?_
    refine R_iload_n C dX4_leastLoad_20 rfl 2 rfl ?_
    refine ldX4 C dX4_leastLoad_21 ?_
    refine R_mmin C wd_2_232 wd_1_23 wd_1_3 wd_1_24 (by omega) (Nat.le_of_ble_eq_true rfl) dX4_leastLoad_22 ?_
    refine R_let (fun x1 => ?_)
    refine R_istore_n (lv' := [(1, .int x1), (0, .ref (a 1)), (2, .int v2)]) C dX4_leastLoad_25 rfl (by decide) rfl ?_
    refine R_iinc (v := v2 + 1) (lv' := [(2, .int (v2 + 1)), (1, .int x1), (0, .ref (a 1))]) C dX4_leastLoad_26 2 rfl rfl (by decide) rfl ?_
    refine R_goto (tgt := 7) C dX4_leastLoad_29 (by decide) ?_
    refine R_sub [2, 1, 0] rfl ?_
    exact h7 x1 (v2 + 1) S
set_option maxHeartbeats 4000000 in
set_option maxRecDepth 100000 in
theorem uX4_leastLoad_7 (C : CX D [(cA, .int)] p s m args meth c A cX4_leastLoad 3 RX4 (some .int)) : ∀ (n : Nat) (v1 v2 : Int32) (S : St), RU D (wX a cA) p l e 1 s m args below meth c A 3 (QI D (wX a cA) [(cA, .int)] A) (fX4_leastLoad_7 n v1 v2 S) 7 [] [(0, .ref (a 1)), (1, .int v1), (2, .int v2)] S := by
  intro n
  induction n with
  | zero => intro v1 v2 S; exact R_none
  | succ n ih => intro v1 v2 S; exact uX4_leastLoad_7_b C _ ih v1 v2 S
set_option maxHeartbeats 4000000 in
set_option maxRecDepth 100000 in
theorem uX4_leastLoad (C : CX D [(cA, .int)] p s m args meth c A cX4_leastLoad 3 RX4 (some .int)) (S : St) : RU D (wX a cA) p l e 1 s m args below meth c A 3 (QI D (wX a cA) [(cA, .int)] A) (fX4_leastLoad S) 0 [] [(0, .ref (a 1))] S := by
  unfold fX4_leastLoad
  refine R_aload_n C dX4_leastLoad_0 rfl 0 rfl ?_
  refine gtX_X4_live C wd_1_68 dX4_leastLoad_1 ?_
  refine R_let (fun x1 => ?_)
  refine R_istore_n (lv' := [(1, .int x1), (0, .ref (a 1))]) C dX4_leastLoad_4 rfl (by decide) rfl ?_
  refine R_iconst (v := (0 : Int32)) C dX4_leastLoad_5 (by decide) ?_
  refine R_istore_n (lv' := [(2, .int (0 : Int32)), (1, .int x1), (0, .ref (a 1))]) C dX4_leastLoad_6 rfl (by decide) rfl ?_
  refine R_sub [2, 1, 0] rfl ?_
  exact uX4_leastLoad_7 C FU x1 (0 : Int32) S
set_option maxHeartbeats 4000000 in
set_option maxRecDepth 100000 in
theorem kX4_leastLoad (l : Launch) (D : va_G) (a : Nat → Nat) (cA : ClassId) (S : St) : CI l D (wX a cA) [(cA, .int)] yX4_leastLoad (.code yX4_leastLoad cX4_leastLoad 3 (some .int)) 1 [.ref (a 1)] (fX4_leastLoad S) S := CI_of rfl (Nat.le_of_ble_eq_true rfl) (fun p e s m args below meth c A C => uX4_leastLoad C S)
theorem dX6_count_0 : decode cX6_count 0 = .ok (.iload_n 1, 1) := by decide +kernel
theorem dX6_count_1 : decode cX6_count 1 = .ok (.tableswitch 141 0 10 #[59, 67, 75, 83, 88, 96, 104, 112, 120, 128, 136], 59) := by decide +kernel
theorem dX6_count_60 : decode cX6_count 60 = .ok (.aload_n 0, 1) := by decide +kernel
theorem dX6_count_61 : decode cX6_count 61 = .ok (.getfield 23, 3) := by decide +kernel
theorem dX6_count_64 : decode cX6_count 64 = .ok (.getfield 111, 3) := by decide +kernel
theorem dX6_count_67 : decode cX6_count 67 = .ok (.ireturn, 1) := by decide +kernel
theorem dX6_count_68 : decode cX6_count 68 = .ok (.aload_n 0, 1) := by decide +kernel
theorem dX6_count_69 : decode cX6_count 69 = .ok (.getfield 23, 3) := by decide +kernel
theorem dX6_count_72 : decode cX6_count 72 = .ok (.getfield 72, 3) := by decide +kernel
theorem dX6_count_75 : decode cX6_count 75 = .ok (.ireturn, 1) := by decide +kernel
theorem dX6_count_76 : decode cX6_count 76 = .ok (.aload_n 0, 1) := by decide +kernel
theorem dX6_count_77 : decode cX6_count 77 = .ok (.getfield 23, 3) := by decide +kernel
theorem dX6_count_80 : decode cX6_count 80 = .ok (.getfield 139, 3) := by decide +kernel
theorem dX6_count_83 : decode cX6_count 83 = .ok (.ireturn, 1) := by decide +kernel
theorem dX6_count_84 : decode cX6_count 84 = .ok (.aload_n 0, 1) := by decide +kernel
theorem dX6_count_85 : decode cX6_count 85 = .ok (.getfield 108, 3) := by decide +kernel
theorem dX6_count_88 : decode cX6_count 88 = .ok (.ireturn, 1) := by decide +kernel
theorem dX6_count_89 : decode cX6_count 89 = .ok (.aload_n 0, 1) := by decide +kernel
theorem dX6_count_90 : decode cX6_count 90 = .ok (.getfield 23, 3) := by decide +kernel
theorem dX6_count_93 : decode cX6_count 93 = .ok (.invokevirtual 167, 3) := by decide +kernel
theorem dX6_count_96 : decode cX6_count 96 = .ok (.ireturn, 1) := by decide +kernel
theorem dX6_count_97 : decode cX6_count 97 = .ok (.aload_n 0, 1) := by decide +kernel
theorem dX6_count_98 : decode cX6_count 98 = .ok (.getfield 23, 3) := by decide +kernel
theorem dX6_count_101 : decode cX6_count 101 = .ok (.invokevirtual 170, 3) := by decide +kernel
theorem dX6_count_104 : decode cX6_count 104 = .ok (.ireturn, 1) := by decide +kernel
theorem dX6_count_105 : decode cX6_count 105 = .ok (.aload_n 0, 1) := by decide +kernel
theorem dX6_count_106 : decode cX6_count 106 = .ok (.getfield 23, 3) := by decide +kernel
theorem dX6_count_109 : decode cX6_count 109 = .ok (.invokevirtual 173, 3) := by decide +kernel
theorem dX6_count_112 : decode cX6_count 112 = .ok (.ireturn, 1) := by decide +kernel
theorem dX6_count_113 : decode cX6_count 113 = .ok (.aload_n 0, 1) := by decide +kernel
theorem dX6_count_114 : decode cX6_count 114 = .ok (.getfield 32, 3) := by decide +kernel
theorem dX6_count_117 : decode cX6_count 117 = .ok (.getfield 86, 3) := by decide +kernel
theorem dX6_count_120 : decode cX6_count 120 = .ok (.ireturn, 1) := by decide +kernel
theorem dX6_count_121 : decode cX6_count 121 = .ok (.aload_n 0, 1) := by decide +kernel
theorem dX6_count_122 : decode cX6_count 122 = .ok (.getfield 32, 3) := by decide +kernel
theorem dX6_count_125 : decode cX6_count 125 = .ok (.getfield 92, 3) := by decide +kernel
theorem dX6_count_128 : decode cX6_count 128 = .ok (.ireturn, 1) := by decide +kernel
theorem dX6_count_129 : decode cX6_count 129 = .ok (.aload_n 0, 1) := by decide +kernel
theorem dX6_count_130 : decode cX6_count 130 = .ok (.getfield 32, 3) := by decide +kernel
theorem dX6_count_133 : decode cX6_count 133 = .ok (.getfield 95, 3) := by decide +kernel
theorem dX6_count_136 : decode cX6_count 136 = .ok (.ireturn, 1) := by decide +kernel
theorem dX6_count_137 : decode cX6_count 137 = .ok (.aload_n 0, 1) := by decide +kernel
theorem dX6_count_138 : decode cX6_count 138 = .ok (.getfield 98, 3) := by decide +kernel
theorem dX6_count_141 : decode cX6_count 141 = .ok (.ireturn, 1) := by decide +kernel
theorem dX6_count_142 : decode cX6_count 142 = .ok (.iconst (-1), 1) := by decide +kernel
theorem dX6_count_143 : decode cX6_count 143 = .ok (.ireturn, 1) := by decide +kernel
set_option maxHeartbeats 4000000 in
set_option maxRecDepth 100000 in
theorem uX6_count (C : CX D [(cA, .int)] p s m args meth c A cX6_count 2 RX6 (some .int)) (v1 : Int32) (S : St) : RU D (wX a cA) p l e 2 s m args below meth c A 2 (QI D (wX a cA) [(cA, .int)] A) (fX6_count v1 S) 0 [] [(0, .ref (a 0)), (1, .int v1)] S := by
  unfold fX6_count
  refine R_iload_n C dX6_count_0 rfl 1 rfl ?_
  refine R_eq (v := 0) (fun _ => ?_) (fun q0 => ?_)
  · refine R_tsIn (tgt := 60) C dX6_count_1 (by decide) (by decide) (by decide +kernel) (by decide) ?_
    refine R_aload_n C dX6_count_60 rfl 0 rfl ?_
    refine gtX_X6_net C wd_1_205 dX6_count_61 ?_
    refine gtX_X4_hosts C wd_1_61 dX6_count_64 ?_
    exact R_reti C dX6_count_67
  refine R_eq (v := 1) (fun _ => ?_) (fun q1 => ?_)
  · refine R_tsIn (tgt := 68) C dX6_count_1 (by decide) (by decide) (by decide +kernel) (by decide) ?_
    refine R_aload_n C dX6_count_68 rfl 0 rfl ?_
    refine gtX_X6_net C wd_1_205 dX6_count_69 ?_
    refine gtX_X4_came C wd_1_62 dX6_count_72 ?_
    exact R_reti C dX6_count_75
  refine R_eq (v := 2) (fun _ => ?_) (fun q2 => ?_)
  · refine R_tsIn (tgt := 76) C dX6_count_1 (by decide) (by decide) (by decide +kernel) (by decide) ?_
    refine R_aload_n C dX6_count_76 rfl 0 rfl ?_
    refine gtX_X6_net C wd_1_205 dX6_count_77 ?_
    refine gtX_X4_live C wd_1_69 dX6_count_80 ?_
    exact R_reti C dX6_count_83
  refine R_eq (v := 3) (fun _ => ?_) (fun q3 => ?_)
  · refine R_tsIn (tgt := 84) C dX6_count_1 (by decide) (by decide) (by decide +kernel) (by decide) ?_
    refine R_aload_n C dX6_count_84 rfl 0 rfl ?_
    refine gtX_X6_movesEver C wd_1_213 dX6_count_85 ?_
    exact R_reti C dX6_count_88
  refine R_eq (v := 4) (fun _ => ?_) (fun q4 => ?_)
  · refine R_tsIn (tgt := 89) C dX6_count_1 (by decide) (by decide) (by decide +kernel) (by decide) ?_
    refine R_aload_n C dX6_count_89 rfl 0 rfl ?_
    refine gtX_X6_net C wd_1_205 dX6_count_90 ?_
    refine R_calli (As := []) (st := []) C (kX4_greatestLoad l D a cA S) (by decide) (by decide) wd_2_227 kwX4_greatestLoad 1 rfl rfl rfl rfl (Nat.le_of_ble_eq_true rfl) dX6_count_93 (fun r1 S2 => ?_)
    exact R_reti C dX6_count_96
  refine R_eq (v := 5) (fun _ => ?_) (fun q5 => ?_)
  · refine R_tsIn (tgt := 97) C dX6_count_1 (by decide) (by decide) (by decide +kernel) (by decide) ?_
    refine R_aload_n C dX6_count_97 rfl 0 rfl ?_
    refine gtX_X6_net C wd_1_205 dX6_count_98 ?_
    refine R_calli (As := []) (st := []) C (kX4_leastLoad l D a cA S) (by decide) (by decide) wd_2_228 kwX4_leastLoad 1 rfl rfl rfl rfl (Nat.le_of_ble_eq_true rfl) dX6_count_101 (fun r3 S4 => ?_)
    exact R_reti C dX6_count_104
  refine R_eq (v := 6) (fun _ => ?_) (fun q6 => ?_)
  · refine R_tsIn (tgt := 105) C dX6_count_1 (by decide) (by decide) (by decide +kernel) (by decide) ?_
    refine R_aload_n C dX6_count_105 rfl 0 rfl ?_
    refine gtX_X6_net C wd_1_205 dX6_count_106 ?_
    refine R_calli (As := []) (st := []) C (kX4_pointsWithCopies l D a cA S) (by decide) (by decide) wd_2_233 kwX4_pointsWithCopies 1 rfl rfl rfl rfl (Nat.le_of_ble_eq_true rfl) dX6_count_109 (fun r5 S6 => ?_)
    exact R_reti C dX6_count_112
  refine R_eq (v := 7) (fun _ => ?_) (fun q7 => ?_)
  · refine R_tsIn (tgt := 113) C dX6_count_1 (by decide) (by decide) (by decide +kernel) (by decide) ?_
    refine R_aload_n C dX6_count_113 rfl 0 rfl ?_
    refine gtX_X6_dealing C wd_1_206 dX6_count_114 ?_
    refine gtX_X1_ruleNow C wd_1_105 dX6_count_117 ?_
    exact R_reti C dX6_count_120
  refine R_eq (v := 8) (fun _ => ?_) (fun q8 => ?_)
  · refine R_tsIn (tgt := 121) C dX6_count_1 (by decide) (by decide) (by decide +kernel) (by decide) ?_
    refine R_aload_n C dX6_count_121 rfl 0 rfl ?_
    refine gtX_X6_dealing C wd_1_206 dX6_count_122 ?_
    refine gtX_X1_slack C wd_1_107 dX6_count_125 ?_
    exact R_reti C dX6_count_128
  refine R_eq (v := 9) (fun _ => ?_) (fun q9 => ?_)
  · refine R_tsIn (tgt := 129) C dX6_count_1 (by decide) (by decide) (by decide +kernel) (by decide) ?_
    refine R_aload_n C dX6_count_129 rfl 0 rfl ?_
    refine gtX_X6_dealing C wd_1_206 dX6_count_130 ?_
    refine gtX_X1_lean C wd_1_109 dX6_count_133 ?_
    exact R_reti C dX6_count_136
  refine R_eq (v := 10) (fun _ => ?_) (fun q10 => ?_)
  · refine R_tsIn (tgt := 137) C dX6_count_1 (by decide) (by decide) (by decide +kernel) (by decide) ?_
    refine R_aload_n C dX6_count_137 rfl 0 rfl ?_
    refine gtX_X6_windowSize C wd_1_212 dX6_count_138 ?_
    exact R_reti C dX6_count_141
  refine R_tsOut (tgt := 142) C dX6_count_1 (by have hq := And.intro True.intro True.intro; have w0 := lv_neT (a := 0) q0 rfl; have w1 := lv_neT (a := 1) q1 rfl; have w2 := lv_neT (a := 2) q2 rfl; have w3 := lv_neT (a := 3) q3 rfl; have w4 := lv_neT (a := 4) q4 rfl; have w5 := lv_neT (a := 5) q5 rfl; have w6 := lv_neT (a := 6) q6 rfl; have w7 := lv_neT (a := 7) q7 rfl; have w8 := lv_neT (a := 8) q8 rfl; have w9 := lv_neT (a := 9) q9 rfl; have w10 := lv_neT (a := 10) q10 rfl; omega) (by decide) ?_
  refine R_iconst (v := (-1 : Int32)) C dX6_count_142 (by decide) ?_
  exact R_reti C dX6_count_143
set_option maxHeartbeats 4000000 in
set_option maxRecDepth 100000 in
theorem kX6_count (l : Launch) (D : va_G) (a : Nat → Nat) (cA : ClassId) (S : St) (v1 : Int32) : CI l D (wX a cA) [(cA, .int)] yX6_count (.code yX6_count cX6_count 2 (some .int)) 2 [.ref (a 0), .int v1] (fX6_count v1 S) S := CI_of rfl (Nat.le_of_ble_eq_true rfl) (fun p e s m args below meth c A C => uX6_count C v1 S)
end
end
