section
-- ===== PART A: goes FIRST, ahead of the names: the tables' words, and 'selects' of the private methods out of them =====
/-- a private method of a class that the tables say can be made, by its rows of tables_1 -/
def lw_okq (q : MethodName × Nat) : Prop := (q.1.cls ≠ "java/lang/invoke/MethodHandle" ∧ q.1.cls ≠ "java/lang/invoke/VarHandle") ∧ Cond.instantiable q.1.cls q.2 ∈ tables_1 ∧ Cond.privateMethod q.1 ∈ tables_1 ∧ Cond.instanceMethod q.1 ∈ tables_1
theorem lw_p0 : lw_okq (⟨"TurnRounds$Reader", "takes", "(IILTurnRounds$Net;)Z"⟩, 2) := ⟨⟨by decide +kernel, by decide +kernel⟩, List.mem_of_getElem? (i := 45) (by decide +kernel), List.mem_of_getElem? (i := 217) (by decide +kernel), List.mem_of_getElem? (i := 218) (by decide +kernel)⟩
theorem lw_p1 : lw_okq (⟨"TurnRounds$RingSets", "goOn", "(LTurnRounds$Net;II)V"⟩, 4) := ⟨⟨by decide +kernel, by decide +kernel⟩, List.mem_of_getElem? (i := 131) (by decide +kernel), List.mem_of_getElem? (i := 267) (by decide +kernel), List.mem_of_getElem? (i := 268) (by decide +kernel)⟩
theorem lw_p2 : lw_okq (⟨"TurnRounds$RingSets", "takeWithin", "(I)V"⟩, 4) := ⟨⟨by decide +kernel, by decide +kernel⟩, List.mem_of_getElem? (i := 131) (by decide +kernel), List.mem_of_getElem? (i := 284) (by decide +kernel), List.mem_of_getElem? (i := 285) (by decide +kernel)⟩
theorem lw_p3 : lw_okq (⟨"TurnRounds", "aboutEachWait", "(I)I"⟩, 13) := ⟨⟨by decide +kernel, by decide +kernel⟩, List.mem_of_getElem? (i := 15) (by decide +kernel), List.mem_of_getElem? (i := 288) (by decide +kernel), List.mem_of_getElem? (i := 289) (by decide +kernel)⟩
theorem lw_p4 : lw_okq (⟨"TurnRounds$Walks", "longest", "(LTurnRounds$Net;II)I"⟩, 3) := ⟨⟨by decide +kernel, by decide +kernel⟩, List.mem_of_getElem? (i := 99) (by decide +kernel), List.mem_of_getElem? (i := 300) (by decide +kernel), List.mem_of_getElem? (i := 301) (by decide +kernel)⟩
theorem lw_p5 : lw_okq (⟨"TurnRounds$Walks", "leastMean", "(II)I"⟩, 3) := ⟨⟨by decide +kernel, by decide +kernel⟩, List.mem_of_getElem? (i := 99) (by decide +kernel), List.mem_of_getElem? (i := 306) (by decide +kernel), List.mem_of_getElem? (i := 307) (by decide +kernel)⟩
theorem lw_p6 : lw_okq (⟨"TurnRounds$Walks", "gainOf", "(LTurnRounds$Net;II)I"⟩, 3) := ⟨⟨by decide +kernel, by decide +kernel⟩, List.mem_of_getElem? (i := 99) (by decide +kernel), List.mem_of_getElem? (i := 313) (by decide +kernel), List.mem_of_getElem? (i := 314) (by decide +kernel)⟩
theorem lw_p7 : lw_okq (⟨"TurnRounds$Walks", "join", "(III)V"⟩, 3) := ⟨⟨by decide +kernel, by decide +kernel⟩, List.mem_of_getElem? (i := 99) (by decide +kernel), List.mem_of_getElem? (i := 318) (by decide +kernel), List.mem_of_getElem? (i := 319) (by decide +kernel)⟩
theorem lw_p8 : lw_okq (⟨"TurnRounds", "leastPeriod", "()I"⟩, 13) := ⟨⟨by decide +kernel, by decide +kernel⟩, List.mem_of_getElem? (i := 15) (by decide +kernel), List.mem_of_getElem? (i := 332) (by decide +kernel), List.mem_of_getElem? (i := 333) (by decide +kernel)⟩
theorem lw_p9 : lw_okq (⟨"TurnRounds", "change", "(III)I"⟩, 13) := ⟨⟨by decide +kernel, by decide +kernel⟩, List.mem_of_getElem? (i := 15) (by decide +kernel), List.mem_of_getElem? (i := 347) (by decide +kernel), List.mem_of_getElem? (i := 348) (by decide +kernel)⟩
theorem lw_p10 : lw_okq (⟨"TurnRounds$Doings", "forgetFirst", "()V"⟩, 4) := ⟨⟨by decide +kernel, by decide +kernel⟩, List.mem_of_getElem? (i := 59) (by decide +kernel), List.mem_of_getElem? (i := 355) (by decide +kernel), List.mem_of_getElem? (i := 356) (by decide +kernel)⟩
theorem lw_p11 : lw_okq (⟨"TurnRounds$Delays", "leastSpare", "(LTurnRounds$Net;II)I"⟩, 3) := ⟨⟨by decide +kernel, by decide +kernel⟩, List.mem_of_getElem? (i := 115) (by decide +kernel), List.mem_of_getElem? (i := 428) (by decide +kernel), List.mem_of_getElem? (i := 429) (by decide +kernel)⟩
theorem lw_p12 : lw_okq (⟨"TurnRounds", "lastsUntil", "(LTurnRounds$Net;III)I"⟩, 13) := ⟨⟨by decide +kernel, by decide +kernel⟩, List.mem_of_getElem? (i := 15) (by decide +kernel), List.mem_of_getElem? (i := 442) (by decide +kernel), List.mem_of_getElem? (i := 443) (by decide +kernel)⟩
theorem lw_p13 : lw_okq (⟨"TurnRounds", "holds", "(I)Z"⟩, 13) := ⟨⟨by decide +kernel, by decide +kernel⟩, List.mem_of_getElem? (i := 15) (by decide +kernel), List.mem_of_getElem? (i := 466) (by decide +kernel), List.mem_of_getElem? (i := 467) (by decide +kernel)⟩
theorem lw_p14 : lw_okq (⟨"TurnRounds", "departsAt", "(II)Z"⟩, 13) := ⟨⟨by decide +kernel, by decide +kernel⟩, List.mem_of_getElem? (i := 15) (by decide +kernel), List.mem_of_getElem? (i := 470) (by decide +kernel), List.mem_of_getElem? (i := 471) (by decide +kernel)⟩
theorem lw_p15 : lw_okq (⟨"TurnRounds", "isOver", "(II)Z"⟩, 13) := ⟨⟨by decide +kernel, by decide +kernel⟩, List.mem_of_getElem? (i := 15) (by decide +kernel), List.mem_of_getElem? (i := 474) (by decide +kernel), List.mem_of_getElem? (i := 475) (by decide +kernel)⟩
def lw_privs_1 : List (MethodName × Nat) := [(⟨"TurnRounds$Reader", "takes", "(IILTurnRounds$Net;)Z"⟩, 2), (⟨"TurnRounds$RingSets", "goOn", "(LTurnRounds$Net;II)V"⟩, 4), (⟨"TurnRounds$RingSets", "takeWithin", "(I)V"⟩, 4), (⟨"TurnRounds", "aboutEachWait", "(I)I"⟩, 13), (⟨"TurnRounds$Walks", "longest", "(LTurnRounds$Net;II)I"⟩, 3), (⟨"TurnRounds$Walks", "leastMean", "(II)I"⟩, 3), (⟨"TurnRounds$Walks", "gainOf", "(LTurnRounds$Net;II)I"⟩, 3), (⟨"TurnRounds$Walks", "join", "(III)V"⟩, 3), (⟨"TurnRounds", "leastPeriod", "()I"⟩, 13), (⟨"TurnRounds", "change", "(III)I"⟩, 13), (⟨"TurnRounds$Doings", "forgetFirst", "()V"⟩, 4), (⟨"TurnRounds$Delays", "leastSpare", "(LTurnRounds$Net;II)I"⟩, 3), (⟨"TurnRounds", "lastsUntil", "(LTurnRounds$Net;III)I"⟩, 13), (⟨"TurnRounds", "holds", "(I)Z"⟩, 13), (⟨"TurnRounds", "departsAt", "(II)Z"⟩, 13), (⟨"TurnRounds", "isOver", "(II)Z"⟩, 13)]
theorem lw_r1 : ∀ q ∈ lw_privs_1, lw_okq q := List.forall_mem_cons.mpr ⟨lw_p0, List.forall_mem_cons.mpr ⟨lw_p1, List.forall_mem_cons.mpr ⟨lw_p2, List.forall_mem_cons.mpr ⟨lw_p3, List.forall_mem_cons.mpr ⟨lw_p4, List.forall_mem_cons.mpr ⟨lw_p5, List.forall_mem_cons.mpr ⟨lw_p6, List.forall_mem_cons.mpr ⟨lw_p7, List.forall_mem_cons.mpr ⟨lw_p8, List.forall_mem_cons.mpr ⟨lw_p9, List.forall_mem_cons.mpr ⟨lw_p10, List.forall_mem_cons.mpr ⟨lw_p11, List.forall_mem_cons.mpr ⟨lw_p12, List.forall_mem_cons.mpr ⟨lw_p13, List.forall_mem_cons.mpr ⟨lw_p14, List.forall_mem_cons.mpr ⟨lw_p15, fun _ h => absurd h List.not_mem_nil⟩⟩⟩⟩⟩⟩⟩⟩⟩⟩⟩⟩⟩⟩⟩⟩
theorem lw_p16 : lw_okq (⟨"TurnRoundsModel", "readNet", "()I"⟩, 31) := ⟨⟨by decide +kernel, by decide +kernel⟩, List.mem_of_getElem? (i := 532) (by decide +kernel), List.mem_of_getElem? (i := 648) (by decide +kernel), List.mem_of_getElem? (i := 649) (by decide +kernel)⟩
theorem lw_p17 : lw_okq (⟨"TurnRoundsModel", "figure", "(I)I"⟩, 31) := ⟨⟨by decide +kernel, by decide +kernel⟩, List.mem_of_getElem? (i := 532) (by decide +kernel), List.mem_of_getElem? (i := 652) (by decide +kernel), List.mem_of_getElem? (i := 653) (by decide +kernel)⟩
theorem lw_p18 : lw_okq (⟨"TurnRoundsModel", "readWait", "()Z"⟩, 31) := ⟨⟨by decide +kernel, by decide +kernel⟩, List.mem_of_getElem? (i := 532) (by decide +kernel), List.mem_of_getElem? (i := 656) (by decide +kernel), List.mem_of_getElem? (i := 657) (by decide +kernel)⟩
theorem lw_p19 : lw_okq (⟨"TurnRoundsModel", "find", "([I)V"⟩, 31) := ⟨⟨by decide +kernel, by decide +kernel⟩, List.mem_of_getElem? (i := 532) (by decide +kernel), List.mem_of_getElem? (i := 680) (by decide +kernel), List.mem_of_getElem? (i := 681) (by decide +kernel)⟩
theorem lw_p20 : lw_okq (⟨"TurnRoundsModel", "findRings", "([II)V"⟩, 31) := ⟨⟨by decide +kernel, by decide +kernel⟩, List.mem_of_getElem? (i := 532) (by decide +kernel), List.mem_of_getElem? (i := 684) (by decide +kernel), List.mem_of_getElem? (i := 685) (by decide +kernel)⟩
theorem lw_p21 : lw_okq (⟨"TurnRoundsModel", "ringsFrom", "([III)V"⟩, 31) := ⟨⟨by decide +kernel, by decide +kernel⟩, List.mem_of_getElem? (i := 532) (by decide +kernel), List.mem_of_getElem? (i := 691) (by decide +kernel), List.mem_of_getElem? (i := 692) (by decide +kernel)⟩
theorem lw_p22 : lw_okq (⟨"TurnRoundsModel", "closeRing", "([II)V"⟩, 31) := ⟨⟨by decide +kernel, by decide +kernel⟩, List.mem_of_getElem? (i := 532) (by decide +kernel), List.mem_of_getElem? (i := 695) (by decide +kernel), List.mem_of_getElem? (i := 696) (by decide +kernel)⟩
theorem lw_p23 : lw_okq (⟨"TurnRoundsModel", "leastPeriod", "()I"⟩, 31) := ⟨⟨by decide +kernel, by decide +kernel⟩, List.mem_of_getElem? (i := 532) (by decide +kernel), List.mem_of_getElem? (i := 705) (by decide +kernel), List.mem_of_getElem? (i := 706) (by decide +kernel)⟩
theorem lw_p24 : lw_okq (⟨"TurnRoundsModel", "isPeriod", "([II)Z"⟩, 31) := ⟨⟨by decide +kernel, by decide +kernel⟩, List.mem_of_getElem? (i := 532) (by decide +kernel), List.mem_of_getElem? (i := 709) (by decide +kernel), List.mem_of_getElem? (i := 710) (by decide +kernel)⟩
theorem lw_p25 : lw_okq (⟨"TurnRoundsModel", "noDeparture", "(I)Z"⟩, 31) := ⟨⟨by decide +kernel, by decide +kernel⟩, List.mem_of_getElem? (i := 532) (by decide +kernel), List.mem_of_getElem? (i := 717) (by decide +kernel), List.mem_of_getElem? (i := 718) (by decide +kernel)⟩
theorem lw_p26 : lw_okq (⟨"TurnRoundsModel", "note", "()V"⟩, 31) := ⟨⟨by decide +kernel, by decide +kernel⟩, List.mem_of_getElem? (i := 532) (by decide +kernel), List.mem_of_getElem? (i := 726) (by decide +kernel), List.mem_of_getElem? (i := 727) (by decide +kernel)⟩
theorem lw_p27 : lw_okq (⟨"TurnRoundsModel", "layTimes", "([II)V"⟩, 31) := ⟨⟨by decide +kernel, by decide +kernel⟩, List.mem_of_getElem? (i := 532) (by decide +kernel), List.mem_of_getElem? (i := 761) (by decide +kernel), List.mem_of_getElem? (i := 762) (by decide +kernel)⟩
theorem lw_p28 : lw_okq (⟨"TurnRoundsModel", "spareOf", "([IIII)I"⟩, 31) := ⟨⟨by decide +kernel, by decide +kernel⟩, List.mem_of_getElem? (i := 532) (by decide +kernel), List.mem_of_getElem? (i := 769) (by decide +kernel), List.mem_of_getElem? (i := 770) (by decide +kernel)⟩
theorem lw_p29 : lw_okq (⟨"TurnRoundsModel", "beginLate", "(II)V"⟩, 31) := ⟨⟨by decide +kernel, by decide +kernel⟩, List.mem_of_getElem? (i := 532) (by decide +kernel), List.mem_of_getElem? (i := 779) (by decide +kernel), List.mem_of_getElem? (i := 780) (by decide +kernel)⟩
theorem lw_p30 : lw_okq (⟨"TurnRoundsModel", "goRound", "([II)I"⟩, 31) := ⟨⟨by decide +kernel, by decide +kernel⟩, List.mem_of_getElem? (i := 532) (by decide +kernel), List.mem_of_getElem? (i := 783) (by decide +kernel), List.mem_of_getElem? (i := 784) (by decide +kernel)⟩
theorem lw_p31 : lw_okq (⟨"TurnRoundsModel", "diesOf", "([IIII)I"⟩, 31) := ⟨⟨by decide +kernel, by decide +kernel⟩, List.mem_of_getElem? (i := 532) (by decide +kernel), List.mem_of_getElem? (i := 791) (by decide +kernel), List.mem_of_getElem? (i := 792) (by decide +kernel)⟩
def lw_privs_2 : List (MethodName × Nat) := [(⟨"TurnRoundsModel", "readNet", "()I"⟩, 31), (⟨"TurnRoundsModel", "figure", "(I)I"⟩, 31), (⟨"TurnRoundsModel", "readWait", "()Z"⟩, 31), (⟨"TurnRoundsModel", "find", "([I)V"⟩, 31), (⟨"TurnRoundsModel", "findRings", "([II)V"⟩, 31), (⟨"TurnRoundsModel", "ringsFrom", "([III)V"⟩, 31), (⟨"TurnRoundsModel", "closeRing", "([II)V"⟩, 31), (⟨"TurnRoundsModel", "leastPeriod", "()I"⟩, 31), (⟨"TurnRoundsModel", "isPeriod", "([II)Z"⟩, 31), (⟨"TurnRoundsModel", "noDeparture", "(I)Z"⟩, 31), (⟨"TurnRoundsModel", "note", "()V"⟩, 31), (⟨"TurnRoundsModel", "layTimes", "([II)V"⟩, 31), (⟨"TurnRoundsModel", "spareOf", "([IIII)I"⟩, 31), (⟨"TurnRoundsModel", "beginLate", "(II)V"⟩, 31), (⟨"TurnRoundsModel", "goRound", "([II)I"⟩, 31), (⟨"TurnRoundsModel", "diesOf", "([IIII)I"⟩, 31)]
theorem lw_r2 : ∀ q ∈ lw_privs_2, lw_okq q := List.forall_mem_cons.mpr ⟨lw_p16, List.forall_mem_cons.mpr ⟨lw_p17, List.forall_mem_cons.mpr ⟨lw_p18, List.forall_mem_cons.mpr ⟨lw_p19, List.forall_mem_cons.mpr ⟨lw_p20, List.forall_mem_cons.mpr ⟨lw_p21, List.forall_mem_cons.mpr ⟨lw_p22, List.forall_mem_cons.mpr ⟨lw_p23, List.forall_mem_cons.mpr ⟨lw_p24, List.forall_mem_cons.mpr ⟨lw_p25, List.forall_mem_cons.mpr ⟨lw_p26, List.forall_mem_cons.mpr ⟨lw_p27, List.forall_mem_cons.mpr ⟨lw_p28, List.forall_mem_cons.mpr ⟨lw_p29, List.forall_mem_cons.mpr ⟨lw_p30, List.forall_mem_cons.mpr ⟨lw_p31, fun _ h => absurd h List.not_mem_nil⟩⟩⟩⟩⟩⟩⟩⟩⟩⟩⟩⟩⟩⟩⟩⟩
theorem lw_p32 : lw_okq (⟨"TurnRoundsModel", "begin", "()V"⟩, 31) := ⟨⟨by decide +kernel, by decide +kernel⟩, List.mem_of_getElem? (i := 532) (by decide +kernel), List.mem_of_getElem? (i := 799) (by decide +kernel), List.mem_of_getElem? (i := 800) (by decide +kernel)⟩
theorem lw_p33 : lw_okq (⟨"TurnRoundsModel", "sixtiethsOf", "([II)I"⟩, 31) := ⟨⟨by decide +kernel, by decide +kernel⟩, List.mem_of_getElem? (i := 532) (by decide +kernel), List.mem_of_getElem? (i := 803) (by decide +kernel), List.mem_of_getElem? (i := 804) (by decide +kernel)⟩
theorem lw_p34 : lw_okq (⟨"TurnRoundsModel", "does", "(I)Z"⟩, 31) := ⟨⟨by decide +kernel, by decide +kernel⟩, List.mem_of_getElem? (i := 532) (by decide +kernel), List.mem_of_getElem? (i := 816) (by decide +kernel), List.mem_of_getElem? (i := 817) (by decide +kernel)⟩
theorem lw_p35 : lw_okq (⟨"TurnRoundsModel", "sets", "(IIZI)Z"⟩, 31) := ⟨⟨by decide +kernel, by decide +kernel⟩, List.mem_of_getElem? (i := 532) (by decide +kernel), List.mem_of_getElem? (i := 820) (by decide +kernel), List.mem_of_getElem? (i := 821) (by decide +kernel)⟩
theorem lw_p36 : lw_okq (⟨"TurnRoundsModel", "isCritical", "(II)Z"⟩, 31) := ⟨⟨by decide +kernel, by decide +kernel⟩, List.mem_of_getElem? (i := 532) (by decide +kernel), List.mem_of_getElem? (i := 824) (by decide +kernel), List.mem_of_getElem? (i := 825) (by decide +kernel)⟩
theorem lw_p37 : lw_okq (⟨"TurnRoundsModel", "isTime", "(II)Z"⟩, 31) := ⟨⟨by decide +kernel, by decide +kernel⟩, List.mem_of_getElem? (i := 532) (by decide +kernel), List.mem_of_getElem? (i := 828) (by decide +kernel), List.mem_of_getElem? (i := 829) (by decide +kernel)⟩
theorem lw_p38 : lw_okq (⟨"TurnRoundsModel", "explains", "(II)Z"⟩, 31) := ⟨⟨by decide +kernel, by decide +kernel⟩, List.mem_of_getElem? (i := 532) (by decide +kernel), List.mem_of_getElem? (i := 851) (by decide +kernel), List.mem_of_getElem? (i := 852) (by decide +kernel)⟩
theorem lw_p39 : lw_okq (⟨"TurnRoundsModel", "drops", "(II)I"⟩, 31) := ⟨⟨by decide +kernel, by decide +kernel⟩, List.mem_of_getElem? (i := 532) (by decide +kernel), List.mem_of_getElem? (i := 860) (by decide +kernel), List.mem_of_getElem? (i := 861) (by decide +kernel)⟩
theorem lw_p40 : lw_okq (⟨"TurnRoundsModel", "draw", "(III)V"⟩, 31) := ⟨⟨by decide +kernel, by decide +kernel⟩, List.mem_of_getElem? (i := 532) (by decide +kernel), List.mem_of_getElem? (i := 877) (by decide +kernel), List.mem_of_getElem? (i := 878) (by decide +kernel)⟩
def lw_privs_3 : List (MethodName × Nat) := [(⟨"TurnRoundsModel", "begin", "()V"⟩, 31), (⟨"TurnRoundsModel", "sixtiethsOf", "([II)I"⟩, 31), (⟨"TurnRoundsModel", "does", "(I)Z"⟩, 31), (⟨"TurnRoundsModel", "sets", "(IIZI)Z"⟩, 31), (⟨"TurnRoundsModel", "isCritical", "(II)Z"⟩, 31), (⟨"TurnRoundsModel", "isTime", "(II)Z"⟩, 31), (⟨"TurnRoundsModel", "explains", "(II)Z"⟩, 31), (⟨"TurnRoundsModel", "drops", "(II)I"⟩, 31), (⟨"TurnRoundsModel", "draw", "(III)V"⟩, 31)]
theorem lw_r3 : ∀ q ∈ lw_privs_3, lw_okq q := List.forall_mem_cons.mpr ⟨lw_p32, List.forall_mem_cons.mpr ⟨lw_p33, List.forall_mem_cons.mpr ⟨lw_p34, List.forall_mem_cons.mpr ⟨lw_p35, List.forall_mem_cons.mpr ⟨lw_p36, List.forall_mem_cons.mpr ⟨lw_p37, List.forall_mem_cons.mpr ⟨lw_p38, List.forall_mem_cons.mpr ⟨lw_p39, List.forall_mem_cons.mpr ⟨lw_p40, fun _ h => absurd h List.not_mem_nil⟩⟩⟩⟩⟩⟩⟩⟩⟩
def lw_privs : List (MethodName × Nat) := lw_privs_1 ++ (lw_privs_2 ++ (lw_privs_3))
def lw_tbl : List Cond := k2_sels lw_privs ++ tables_1
theorem lw_privs_ok : ∀ q ∈ lw_privs, lw_okq q := by
  show ∀ q ∈ lw_privs_1 ++ (lw_privs_2 ++ (lw_privs_3)), lw_okq q
  exact List.forall_mem_append.mpr ⟨lw_r1, List.forall_mem_append.mpr ⟨lw_r2, lw_r3⟩⟩
end
section
def RX0 : String := "TurnRounds$Delays"
def TX0 : u_T := fun k => match k with
  | 0 => ("TurnRounds$Delays", "times", "[I", true)
  | 1 => ("TurnRounds$Delays", "spares", "[I", true)
  | _ => ("TurnRounds$Delays", "period", "I", false)
def tyX0 : Nat → FieldType := fun k => match k with
  | 0 => .array .int
  | 1 => .array .int
  | _ => .int
abbrev wsX00 : List Cond := u_ws RX0 TX0 3
theorem nmX0 : ∀ a, a < 3 → ∀ b, b < 3 → a ≠ b → (TX0 a).2.1 ≠ (TX0 b).2.1 := by decide +kernel
theorem tyX0_ok : ∀ k, k < 3 → parseFieldDescriptor (TX0 k).2.2.1 = some (tyX0 k) := by decide +kernel
abbrev cX0_init : ByteArray := prog_2_method_1_code
def yX0_init : MethodName := ⟨RX0, "<init>", "()V"⟩
abbrev cX0_settle : ByteArray := prog_2_method_2_code
def yX0_settle : MethodName := ⟨RX0, "settle", "(LTurnRounds$Net;I)V"⟩
abbrev cX0_timeOf : ByteArray := prog_2_method_3_code
def yX0_timeOf : MethodName := ⟨RX0, "timeOf", "(I)I"⟩
abbrev cX0_spareOf : ByteArray := prog_2_method_4_code
def yX0_spareOf : MethodName := ⟨RX0, "spareOf", "(LTurnRounds$Net;II)I"⟩
abbrev cX0_spread : ByteArray := prog_2_method_5_code
def yX0_spread : MethodName := ⟨RX0, "spread", "(LTurnRounds$Net;II)V"⟩
abbrev cX0_leastSpare : ByteArray := prog_2_method_6_code
def yX0_leastSpare : MethodName := ⟨RX0, "leastSpare", "(LTurnRounds$Net;II)I"⟩
abbrev cX0_lateness : ByteArray := prog_2_method_7_code
def yX0_lateness : MethodName := ⟨RX0, "lateness", "(III)I"⟩
abbrev cX0_firstQuietRound : ByteArray := prog_2_method_8_code
def yX0_firstQuietRound : MethodName := ⟨RX0, "firstQuietRound", "(II)I"⟩
def RX1 : String := "TurnRounds$Doings"
def TX1 : u_T := fun k => match k with
  | 0 => ("TurnRounds$Doings", "froms", "[I", true)
  | 1 => ("TurnRounds$Doings", "tos", "[I", true)
  | 2 => ("TurnRounds$Doings", "minutes", "[I", true)
  | _ => ("TurnRounds$Doings", "count", "I", false)
def tyX1 : Nat → FieldType := fun k => match k with
  | 0 => .array .int
  | 1 => .array .int
  | 2 => .array .int
  | _ => .int
abbrev wsX10 : List Cond := u_ws RX1 TX1 4
theorem nmX1 : ∀ a, a < 4 → ∀ b, b < 4 → a ≠ b → (TX1 a).2.1 ≠ (TX1 b).2.1 := by decide +kernel
theorem tyX1_ok : ∀ k, k < 4 → parseFieldDescriptor (TX1 k).2.2.1 = some (tyX1 k) := by decide +kernel
abbrev cX1_init : ByteArray := prog_3_method_1_code
def yX1_init : MethodName := ⟨RX1, "<init>", "()V"⟩
abbrev cX1_forget : ByteArray := prog_3_method_2_code
def yX1_forget : MethodName := ⟨RX1, "forget", "()V"⟩
abbrev cX1_add : ByteArray := prog_3_method_3_code
def yX1_add : MethodName := ⟨RX1, "add", "(III)V"⟩
abbrev cX1_takeBack : ByteArray := prog_3_method_4_code
def yX1_takeBack : MethodName := ⟨RX1, "takeBack", "(LTurnRounds$Net;)V"⟩
abbrev cX1_forgetFirst : ByteArray := prog_3_method_5_code
def yX1_forgetFirst : MethodName := ⟨RX1, "forgetFirst", "()V"⟩
def RX2 : String := "TurnRounds$Net"
def TX2 : u_T := fun k => match k with
  | 0 => ("TurnRounds$Net", "cells", "[I", true)
  | _ => ("TurnRounds$Net", "size", "I", false)
def tyX2 : Nat → FieldType := fun k => match k with
  | 0 => .array .int
  | _ => .int
abbrev wsX20 : List Cond := u_ws RX2 TX2 2
theorem nmX2 : ∀ a, a < 2 → ∀ b, b < 2 → a ≠ b → (TX2 a).2.1 ≠ (TX2 b).2.1 := by decide +kernel
theorem tyX2_ok : ∀ k, k < 2 → parseFieldDescriptor (TX2 k).2.2.1 = some (tyX2 k) := by decide +kernel
abbrev cX2_init : ByteArray := prog_4_method_1_code
def yX2_init : MethodName := ⟨RX2, "<init>", "()V"⟩
abbrev cX2_has : ByteArray := prog_4_method_2_code
def yX2_has : MethodName := ⟨RX2, "has", "(I)Z"⟩
abbrev cX2_of : ByteArray := prog_4_method_3_code
def yX2_of : MethodName := ⟨RX2, "of", "(II)I"⟩
abbrev cX2_lay : ByteArray := prog_4_method_4_code
def yX2_lay : MethodName := ⟨RX2, "lay", "(III)Z"⟩
abbrev cX2_leadsToAll : ByteArray := prog_4_method_5_code
def yX2_leadsToAll : MethodName := ⟨RX2, "leadsToAll", "(I)Z"⟩
abbrev cX2_waits : ByteArray := prog_4_method_6_code
def yX2_waits : MethodName := ⟨RX2, "waits", "()I"⟩
abbrev cX2_begin : ByteArray := prog_4_method_7_code
def yX2_begin : MethodName := ⟨RX2, "begin", "(I)V"⟩
abbrev cX2_copyFrom : ByteArray := prog_4_method_8_code
def yX2_copyFrom : MethodName := ⟨RX2, "copyFrom", "(LTurnRounds$Net;)V"⟩
def RX3 : String := "TurnRounds$Reader"
def TX3 : u_T := fun k => match k with
  | 0 => ("TurnRounds$Reader", "from", "I", false)
  | _ => ("TurnRounds$Reader", "to", "I", false)
def tyX3 : Nat → FieldType := fun k => match k with
  | 0 => .int
  | _ => .int
abbrev wsX30 : List Cond := u_ws RX3 TX3 2
theorem nmX3 : ∀ a, a < 2 → ∀ b, b < 2 → a ≠ b → (TX3 a).2.1 ≠ (TX3 b).2.1 := by decide +kernel
theorem tyX3_ok : ∀ k, k < 2 → parseFieldDescriptor (TX3 k).2.2.1 = some (tyX3 k) := by decide +kernel
abbrev cX3_init : ByteArray := prog_5_method_1_code
def yX3_init : MethodName := ⟨RX3, "<init>", "()V"⟩
abbrev cX3_read : ByteArray := prog_5_method_2_code
def yX3_read : MethodName := ⟨RX3, "read", "([IILTurnRounds$Net;)I"⟩
abbrev cX3_takes : ByteArray := prog_5_method_3_code
def yX3_takes : MethodName := ⟨RX3, "takes", "(IILTurnRounds$Net;)Z"⟩
def RX4 : String := "TurnRounds$RingSets"
def TX4 : u_T := fun k => match k with
  | 0 => ("TurnRounds$RingSets", "counts", "[I", true)
  | 1 => ("TurnRounds$RingSets", "longest", "[I", true)
  | 2 => ("TurnRounds$RingSets", "paces", "[I", true)
  | _ => ("TurnRounds$RingSets", "rings", "I", false)
def tyX4 : Nat → FieldType := fun k => match k with
  | 0 => .array .int
  | 1 => .array .int
  | 2 => .array .int
  | _ => .int
abbrev wsX40 : List Cond := u_ws RX4 TX4 4
theorem nmX4 : ∀ a, a < 4 → ∀ b, b < 4 → a ≠ b → (TX4 a).2.1 ≠ (TX4 b).2.1 := by decide +kernel
theorem tyX4_ok : ∀ k, k < 4 → parseFieldDescriptor (TX4 k).2.2.1 = some (tyX4 k) := by decide +kernel
abbrev cX4_init : ByteArray := prog_6_method_1_code
def yX4_init : MethodName := ⟨RX4, "<init>", "()V"⟩
abbrev cX4_fill : ByteArray := prog_6_method_2_code
def yX4_fill : MethodName := ⟨RX4, "fill", "(LTurnRounds$Net;)V"⟩
abbrev cX4_lowestOf : ByteArray := prog_6_method_3_code
def yX4_lowestOf : MethodName := ⟨RX4, "lowestOf", "(I)I"⟩
abbrev cX4_goOn : ByteArray := prog_6_method_4_code
def yX4_goOn : MethodName := ⟨RX4, "goOn", "(LTurnRounds$Net;II)V"⟩
abbrev cX4_takeWithin : ByteArray := prog_6_method_5_code
def yX4_takeWithin : MethodName := ⟨RX4, "takeWithin", "(I)V"⟩
abbrev cX4_added : ByteArray := prog_6_method_6_code
def yX4_added : MethodName := ⟨RX4, "added", "(II)I"⟩
def RX5 : String := "TurnRounds$Seen"
def TX5 : u_T := fun k => match k with
  | 0 => ("TurnRounds$Seen", "departures", "[I", true)
  | 1 => ("TurnRounds$Seen", "rounds", "[I", true)
  | 2 => ("TurnRounds$Seen", "was", "[I", true)
  | _ => ("TurnRounds$Seen", "count", "I", false)
def tyX5 : Nat → FieldType := fun k => match k with
  | 0 => .array .int
  | 1 => .array .int
  | 2 => .array .int
  | _ => .int
abbrev wsX50 : List Cond := u_ws RX5 TX5 4
theorem nmX5 : ∀ a, a < 4 → ∀ b, b < 4 → a ≠ b → (TX5 a).2.1 ≠ (TX5 b).2.1 := by decide +kernel
theorem tyX5_ok : ∀ k, k < 4 → parseFieldDescriptor (TX5 k).2.2.1 = some (tyX5 k) := by decide +kernel
abbrev cX5_init : ByteArray := prog_7_method_1_code
def yX5_init : MethodName := ⟨RX5, "<init>", "()V"⟩
abbrev cX5_add : ByteArray := prog_7_method_2_code
def yX5_add : MethodName := ⟨RX5, "add", "(III)Z"⟩
abbrev cX5_fits : ByteArray := prog_7_method_3_code
def yX5_fits : MethodName := ⟨RX5, "fits", "(LTurnRounds$Delays;II)Z"⟩
def RX6 : String := "TurnRounds$Walks"
def TX6 : u_T := fun k => match k with
  | 0 => ("TurnRounds$Walks", "rows", "[I", true)
  | 1 => ("TurnRounds$Walks", "gains", "[I", true)
  | _ => ("TurnRounds$Walks", "paceCompared", "I", false)
def tyX6 : Nat → FieldType := fun k => match k with
  | 0 => .array .int
  | 1 => .array .int
  | _ => .int
abbrev wsX60 : List Cond := u_ws RX6 TX6 3
theorem nmX6 : ∀ a, a < 3 → ∀ b, b < 3 → a ≠ b → (TX6 a).2.1 ≠ (TX6 b).2.1 := by decide +kernel
theorem tyX6_ok : ∀ k, k < 3 → parseFieldDescriptor (TX6 k).2.2.1 = some (tyX6 k) := by decide +kernel
abbrev cX6_init : ByteArray := prog_8_method_1_code
def yX6_init : MethodName := ⟨RX6, "<init>", "()V"⟩
abbrev cX6_isKept : ByteArray := prog_8_method_2_code
def yX6_isKept : MethodName := ⟨RX6, "isKept", "(LTurnRounds$Net;I)Z"⟩
abbrev cX6_slowest : ByteArray := prog_8_method_3_code
def yX6_slowest : MethodName := ⟨RX6, "slowest", "(LTurnRounds$Net;)I"⟩
abbrev cX6_longest : ByteArray := prog_8_method_4_code
def yX6_longest : MethodName := ⟨RX6, "longest", "(LTurnRounds$Net;II)I"⟩
abbrev cX6_leastMean : ByteArray := prog_8_method_5_code
def yX6_leastMean : MethodName := ⟨RX6, "leastMean", "(II)I"⟩
abbrev cX6_compare : ByteArray := prog_8_method_6_code
def yX6_compare : MethodName := ⟨RX6, "compare", "(LTurnRounds$Net;)V"⟩
abbrev cX6_gainOf : ByteArray := prog_8_method_7_code
def yX6_gainOf : MethodName := ⟨RX6, "gainOf", "(LTurnRounds$Net;II)I"⟩
abbrev cX6_join : ByteArray := prog_8_method_8_code
def yX6_join : MethodName := ⟨RX6, "join", "(III)V"⟩
abbrev cX6_comesBack : ByteArray := prog_8_method_9_code
def yX6_comesBack : MethodName := ⟨RX6, "comesBack", "(II)Z"⟩
abbrev cX6_isCritical : ByteArray := prog_8_method_10_code
def yX6_isCritical : MethodName := ⟨RX6, "isCritical", "(LTurnRounds$Net;II)Z"⟩
def RX7 : String := "TurnRounds"
def TX7 : u_T := fun k => match k with
  | 0 => ("TurnRounds", "letters", "[I", true)
  | 1 => ("TurnRounds", "now", "LTurnRounds$Net;", true)
  | 2 => ("TurnRounds", "trial", "LTurnRounds$Net;", true)
  | 3 => ("TurnRounds", "slots", "[LTurnRounds$Net;", true)
  | 4 => ("TurnRounds", "filled", "[Z", true)
  | 5 => ("TurnRounds", "reader", "LTurnRounds$Reader;", true)
  | 6 => ("TurnRounds", "doings", "LTurnRounds$Doings;", true)
  | 7 => ("TurnRounds", "seen", "LTurnRounds$Seen;", true)
  | 8 => ("TurnRounds", "walks", "LTurnRounds$Walks;", true)
  | 9 => ("TurnRounds", "delays", "LTurnRounds$Delays;", true)
  | 10 => ("TurnRounds", "ringSets", "LTurnRounds$RingSets;", true)
  | 11 => ("TurnRounds", "length", "I", false)
  | _ => ("TurnRounds", "drawnFrom", "J", false)
def tyX7 : Nat → FieldType := fun k => match k with
  | 0 => .array .int
  | 1 => .object "TurnRounds$Net"
  | 2 => .object "TurnRounds$Net"
  | 3 => .array (.object "TurnRounds$Net")
  | 4 => .array .boolean
  | 5 => .object "TurnRounds$Reader"
  | 6 => .object "TurnRounds$Doings"
  | 7 => .object "TurnRounds$Seen"
  | 8 => .object "TurnRounds$Walks"
  | 9 => .object "TurnRounds$Delays"
  | 10 => .object "TurnRounds$RingSets"
  | 11 => .int
  | _ => .long
abbrev wsX70 : List Cond := u_ws RX7 TX7 13
theorem nmX7 : ∀ a, a < 13 → ∀ b, b < 13 → a ≠ b → (TX7 a).2.1 ≠ (TX7 b).2.1 := by decide +kernel
theorem tyX7_ok : ∀ k, k < 13 → parseFieldDescriptor (TX7 k).2.2.1 = some (tyX7 k) := by decide +kernel
abbrev cX7_init : ByteArray := prog_1_method_1_code
def yX7_init : MethodName := ⟨RX7, "<init>", "()V"⟩
abbrev cX7_write : ByteArray := prog_1_method_2_code
def yX7_write : MethodName := ⟨RX7, "write", "(I)I"⟩
abbrev cX7_wipe : ByteArray := prog_1_method_3_code
def yX7_wipe : MethodName := ⟨RX7, "wipe", "()I"⟩
abbrev cX7_fault : ByteArray := prog_1_method_4_code
def yX7_fault : MethodName := ⟨RX7, "fault", "()I"⟩
abbrev cX7_net : ByteArray := prog_1_method_5_code
def yX7_net : MethodName := ⟨RX7, "net", "()I"⟩
abbrev cX7_about : ByteArray := prog_1_method_6_code
def yX7_about : MethodName := ⟨RX7, "about", "(I)I"⟩
abbrev cX7_minutes : ByteArray := prog_1_method_7_code
def yX7_minutes : MethodName := ⟨RX7, "minutes", "(II)I"⟩
abbrev cX7_put : ByteArray := prog_1_method_8_code
def yX7_put : MethodName := ⟨RX7, "put", "(III)I"⟩
abbrev cX7_cut : ByteArray := prog_1_method_9_code
def yX7_cut : MethodName := ⟨RX7, "cut", "(II)I"⟩
abbrev cX7_time : ByteArray := prog_1_method_10_code
def yX7_time : MethodName := ⟨RX7, "time", "(III)I"⟩
abbrev cX7_undo : ByteArray := prog_1_method_11_code
def yX7_undo : MethodName := ⟨RX7, "undo", "()I"⟩
abbrev cX7_pace : ByteArray := prog_1_method_12_code
def yX7_pace : MethodName := ⟨RX7, "pace", "(Z)I"⟩
abbrev cX7_critical : ByteArray := prog_1_method_13_code
def yX7_critical : MethodName := ⟨RX7, "critical", "(II)I"⟩
abbrev cX7_departs : ByteArray := prog_1_method_14_code
def yX7_departs : MethodName := ⟨RX7, "departs", "(II)I"⟩
abbrev cX7_spare : ByteArray := prog_1_method_15_code
def yX7_spare : MethodName := ⟨RX7, "spare", "(III)I"⟩
abbrev cX7_late : ByteArray := prog_1_method_16_code
def yX7_late : MethodName := ⟨RX7, "late", "(IIIII)I"⟩
abbrev cX7_dies : ByteArray := prog_1_method_17_code
def yX7_dies : MethodName := ⟨RX7, "dies", "(III)I"⟩
abbrev cX7_best : ByteArray := prog_1_method_18_code
def yX7_best : MethodName := ⟨RX7, "best", "(I)I"⟩
abbrev cX7_judge : ByteArray := prog_1_method_19_code
def yX7_judge : MethodName := ⟨RX7, "judge", "(IJ)I"⟩
abbrev cX7_share : ByteArray := prog_1_method_20_code
def yX7_share : MethodName := ⟨RX7, "share", "(IZ)I"⟩
abbrev cX7_see : ByteArray := prog_1_method_21_code
def yX7_see : MethodName := ⟨RX7, "see", "(III)I"⟩
abbrev cX7_unsee : ByteArray := prog_1_method_22_code
def yX7_unsee : MethodName := ⟨RX7, "unsee", "()I"⟩
abbrev cX7_began : ByteArray := prog_1_method_23_code
def yX7_began : MethodName := ⟨RX7, "began", "(I)I"⟩
abbrev cX7_dropped : ByteArray := prog_1_method_24_code
def yX7_dropped : MethodName := ⟨RX7, "dropped", "(IIIZ)I"⟩
abbrev cX7_seed : ByteArray := prog_1_method_25_code
def yX7_seed : MethodName := ⟨RX7, "seed", "(J)J"⟩
abbrev cX7_drawn : ByteArray := prog_1_method_26_code
def yX7_drawn : MethodName := ⟨RX7, "drawn", "(I)I"⟩
abbrev cX7_keep : ByteArray := prog_1_method_27_code
def yX7_keep : MethodName := ⟨RX7, "keep", "(I)I"⟩
abbrev cX7_again : ByteArray := prog_1_method_28_code
def yX7_again : MethodName := ⟨RX7, "again", "(I)I"⟩
abbrev cX7_change : ByteArray := prog_1_method_29_code
def yX7_change : MethodName := ⟨RX7, "change", "(III)I"⟩
abbrev cX7_aboutEachWait : ByteArray := prog_1_method_30_code
def yX7_aboutEachWait : MethodName := ⟨RX7, "aboutEachWait", "(I)I"⟩
abbrev cX7_leastPeriod : ByteArray := prog_1_method_31_code
def yX7_leastPeriod : MethodName := ⟨RX7, "leastPeriod", "()I"⟩
abbrev cX7_lastsUntil : ByteArray := prog_1_method_32_code
def yX7_lastsUntil : MethodName := ⟨RX7, "lastsUntil", "(LTurnRounds$Net;III)I"⟩
abbrev cX7_figuresOf : ByteArray := prog_1_method_33_code
def yX7_figuresOf : MethodName := ⟨RX7, "figuresOf", "(JI)I"⟩
abbrev cX7_holds : ByteArray := prog_1_method_34_code
def yX7_holds : MethodName := ⟨RX7, "holds", "(I)Z"⟩
abbrev cX7_departsAt : ByteArray := prog_1_method_35_code
def yX7_departsAt : MethodName := ⟨RX7, "departsAt", "(II)Z"⟩
abbrev cX7_isOver : ByteArray := prog_1_method_36_code
def yX7_isOver : MethodName := ⟨RX7, "isOver", "(II)Z"⟩
abbrev cX7_told : ByteArray := prog_1_method_37_code
def yX7_told : MethodName := ⟨RX7, "told", "(IIZ)I"⟩
abbrev cX7_commonDivisor : ByteArray := prog_1_method_38_code
def yX7_commonDivisor : MethodName := ⟨RX7, "commonDivisor", "(II)I"⟩
def RX8 : String := "TurnRoundsModel"
def TX8 : u_T := fun k => match k with
  | 0 => ("TurnRoundsModel", "thrown", "I", false)
  | 1 => ("TurnRoundsModel", "text", "[I", true)
  | 2 => ("TurnRoundsModel", "textSize", "I", false)
  | 3 => ("TurnRoundsModel", "place", "I", false)
  | 4 => ("TurnRoundsModel", "readMany", "I", false)
  | 5 => ("TurnRoundsModel", "readPage", "[I", true)
  | 6 => ("TurnRoundsModel", "page", "[I", true)
  | 7 => ("TurnRoundsModel", "trial", "[I", true)
  | 8 => ("TurnRoundsModel", "book", "[I", true)
  | 9 => ("TurnRoundsModel", "doings", "I", false)
  | 10 => ("TurnRoundsModel", "kept", "[I", true)
  | 11 => ("TurnRoundsModel", "isKept", "[Z", true)
  | 12 => ("TurnRoundsModel", "seen", "I", false)
  | 13 => ("TurnRoundsModel", "seenWho", "[I", true)
  | 14 => ("TurnRoundsModel", "seenWhen", "[I", true)
  | 15 => ("TurnRoundsModel", "seenIs", "[I", true)
  | 16 => ("TurnRoundsModel", "seed", "J", false)
  | 17 => ("TurnRoundsModel", "ringMany", "I", false)
  | 18 => ("TurnRoundsModel", "bestSum", "I", false)
  | 19 => ("TurnRoundsModel", "bestBy", "I", false)
  | 20 => ("TurnRoundsModel", "criticalWaits", "J", false)
  | 21 => ("TurnRoundsModel", "criticalDepartures", "I", false)
  | 22 => ("TurnRoundsModel", "ringWaits", "J", false)
  | 23 => ("TurnRoundsModel", "row", "[I", true)
  | 24 => ("TurnRoundsModel", "next", "[I", true)
  | 25 => ("TurnRoundsModel", "time", "[I", true)
  | 26 => ("TurnRoundsModel", "late", "[I", true)
  | 27 => ("TurnRoundsModel", "then", "[I", true)
  | 28 => ("TurnRoundsModel", "beganMany", "I", false)
  | 29 => ("TurnRoundsModel", "beganFirst", "I", false)
  | _ => ("TurnRoundsModel", "value", "[I", true)
def tyX8 : Nat → FieldType := fun k => match k with
  | 0 => .int
  | 1 => .array .int
  | 2 => .int
  | 3 => .int
  | 4 => .int
  | 5 => .array .int
  | 6 => .array .int
  | 7 => .array .int
  | 8 => .array .int
  | 9 => .int
  | 10 => .array .int
  | 11 => .array .boolean
  | 12 => .int
  | 13 => .array .int
  | 14 => .array .int
  | 15 => .array .int
  | 16 => .long
  | 17 => .int
  | 18 => .int
  | 19 => .int
  | 20 => .long
  | 21 => .int
  | 22 => .long
  | 23 => .array .int
  | 24 => .array .int
  | 25 => .array .int
  | 26 => .array .int
  | 27 => .array .int
  | 28 => .int
  | 29 => .int
  | _ => .array .int
abbrev wsX80 : List Cond := u_ws RX8 TX8 31
theorem nmX8 : ∀ a, a < 31 → ∀ b, b < 31 → a ≠ b → (TX8 a).2.1 ≠ (TX8 b).2.1 := by decide +kernel
theorem tyX8_ok : ∀ k, k < 31 → parseFieldDescriptor (TX8 k).2.2.1 = some (tyX8 k) := by decide +kernel
abbrev cX8_init : ByteArray := prog_10_method_1_code
def yX8_init : MethodName := ⟨RX8, "<init>", "()V"⟩
abbrev cX8_in : ByteArray := prog_10_method_3_code
def yX8_in : MethodName := ⟨RX8, "in", "(JJJ)Z"⟩
abbrev cX8_has : ByteArray := prog_10_method_4_code
def yX8_has : MethodName := ⟨RX8, "has", "(II)Z"⟩
abbrev cX8_many : ByteArray := prog_10_method_5_code
def yX8_many : MethodName := ⟨RX8, "many", "(J)I"⟩
abbrev cX8_power : ByteArray := prog_10_method_6_code
def yX8_power : MethodName := ⟨RX8, "power", "(II)I"⟩
abbrev cX8_noDeparture : ByteArray := prog_10_method_7_code
def yX8_noDeparture : MethodName := ⟨RX8, "noDeparture", "(I)Z"⟩
abbrev cX8_minutesOf : ByteArray := prog_10_method_8_code
def yX8_minutesOf : MethodName := ⟨RX8, "minutesOf", "([III)I"⟩
abbrev cX8_isThere : ByteArray := prog_10_method_9_code
def yX8_isThere : MethodName := ⟨RX8, "isThere", "([III)Z"⟩
abbrev cX8_write : ByteArray := prog_10_method_10_code
def yX8_write : MethodName := ⟨RX8, "write", "(I)I"⟩
abbrev cX8_wipe : ByteArray := prog_10_method_11_code
def yX8_wipe : MethodName := ⟨RX8, "wipe", "()I"⟩
abbrev cX8_figure : ByteArray := prog_10_method_12_code
def yX8_figure : MethodName := ⟨RX8, "figure", "(I)I"⟩
abbrev cX8_waitsFrom : ByteArray := prog_10_method_13_code
def yX8_waitsFrom : MethodName := ⟨RX8, "waitsFrom", "([II)I"⟩
abbrev cX8_readWait : ByteArray := prog_10_method_14_code
def yX8_readWait : MethodName := ⟨RX8, "readWait", "()Z"⟩
abbrev cX8_readNet : ByteArray := prog_10_method_15_code
def yX8_readNet : MethodName := ⟨RX8, "readNet", "()I"⟩
abbrev cX8_fault : ByteArray := prog_10_method_16_code
def yX8_fault : MethodName := ⟨RX8, "fault", "()I"⟩
abbrev cX8_waits : ByteArray := prog_10_method_17_code
def yX8_waits : MethodName := ⟨RX8, "waits", "([I)I"⟩
abbrev cX8_net : ByteArray := prog_10_method_18_code
def yX8_net : MethodName := ⟨RX8, "net", "()I"⟩
abbrev cX8_closeRing : ByteArray := prog_10_method_19_code
def yX8_closeRing : MethodName := ⟨RX8, "closeRing", "([II)V"⟩
abbrev cX8_isIn : ByteArray := prog_10_method_20_code
def yX8_isIn : MethodName := ⟨RX8, "isIn", "([III)Z"⟩
abbrev cX8_ringsFrom : ByteArray := prog_10_method_21_code
def yX8_ringsFrom : MethodName := ⟨RX8, "ringsFrom", "([III)V"⟩
abbrev cX8_findRings : ByteArray := prog_10_method_22_code
def yX8_findRings : MethodName := ⟨RX8, "findRings", "([II)V"⟩
abbrev cX8_find : ByteArray := prog_10_method_23_code
def yX8_find : MethodName := ⟨RX8, "find", "([I)V"⟩
abbrev cX8_isPeriod : ByteArray := prog_10_method_24_code
def yX8_isPeriod : MethodName := ⟨RX8, "isPeriod", "([II)Z"⟩
abbrev cX8_leastPeriod : ByteArray := prog_10_method_25_code
def yX8_leastPeriod : MethodName := ⟨RX8, "leastPeriod", "()I"⟩
abbrev cX8_about : ByteArray := prog_10_method_26_code
def yX8_about : MethodName := ⟨RX8, "about", "(I)I"⟩
abbrev cX8_minutes : ByteArray := prog_10_method_27_code
def yX8_minutes : MethodName := ⟨RX8, "minutes", "(II)I"⟩
abbrev cX8_note : ByteArray := prog_10_method_28_code
def yX8_note : MethodName := ⟨RX8, "note", "()V"⟩
abbrev cX8_put : ByteArray := prog_10_method_29_code
def yX8_put : MethodName := ⟨RX8, "put", "(III)I"⟩
abbrev cX8_cut : ByteArray := prog_10_method_30_code
def yX8_cut : MethodName := ⟨RX8, "cut", "(II)I"⟩
abbrev cX8_time : ByteArray := prog_10_method_31_code
def yX8_time : MethodName := ⟨RX8, "time", "(III)I"⟩
abbrev cX8_undo : ByteArray := prog_10_method_32_code
def yX8_undo : MethodName := ⟨RX8, "undo", "()I"⟩
abbrev cX8_divisor : ByteArray := prog_10_method_33_code
def yX8_divisor : MethodName := ⟨RX8, "divisor", "(II)I"⟩
abbrev cX8_fraction : ByteArray := prog_10_method_34_code
def yX8_fraction : MethodName := ⟨RX8, "fraction", "(IIZ)I"⟩
abbrev cX8_pace : ByteArray := prog_10_method_35_code
def yX8_pace : MethodName := ⟨RX8, "pace", "(Z)I"⟩
abbrev cX8_critical : ByteArray := prog_10_method_36_code
def yX8_critical : MethodName := ⟨RX8, "critical", "(II)I"⟩
abbrev cX8_layTimes : ByteArray := prog_10_method_37_code
def yX8_layTimes : MethodName := ⟨RX8, "layTimes", "([II)V"⟩
abbrev cX8_spareOf : ByteArray := prog_10_method_38_code
def yX8_spareOf : MethodName := ⟨RX8, "spareOf", "([IIII)I"⟩
abbrev cX8_departs : ByteArray := prog_10_method_39_code
def yX8_departs : MethodName := ⟨RX8, "departs", "(II)I"⟩
abbrev cX8_spare : ByteArray := prog_10_method_40_code
def yX8_spare : MethodName := ⟨RX8, "spare", "(III)I"⟩
abbrev cX8_beginLate : ByteArray := prog_10_method_41_code
def yX8_beginLate : MethodName := ⟨RX8, "beginLate", "(II)V"⟩
abbrev cX8_goRound : ByteArray := prog_10_method_42_code
def yX8_goRound : MethodName := ⟨RX8, "goRound", "([II)I"⟩
abbrev cX8_late : ByteArray := prog_10_method_43_code
def yX8_late : MethodName := ⟨RX8, "late", "(IIIII)I"⟩
abbrev cX8_diesOf : ByteArray := prog_10_method_44_code
def yX8_diesOf : MethodName := ⟨RX8, "diesOf", "([IIII)I"⟩
abbrev cX8_dies : ByteArray := prog_10_method_45_code
def yX8_dies : MethodName := ⟨RX8, "dies", "(III)I"⟩
abbrev cX8_begin : ByteArray := prog_10_method_46_code
def yX8_begin : MethodName := ⟨RX8, "begin", "()V"⟩
abbrev cX8_sixtiethsOf : ByteArray := prog_10_method_47_code
def yX8_sixtiethsOf : MethodName := ⟨RX8, "sixtiethsOf", "([II)I"⟩
abbrev cX8_best : ByteArray := prog_10_method_48_code
def yX8_best : MethodName := ⟨RX8, "best", "(I)I"⟩
abbrev cX8_longPower : ByteArray := prog_10_method_49_code
def yX8_longPower : MethodName := ⟨RX8, "longPower", "(JI)J"⟩
abbrev cX8_sets : ByteArray := prog_10_method_50_code
def yX8_sets : MethodName := ⟨RX8, "sets", "(IIZI)Z"⟩
abbrev cX8_isCritical : ByteArray := prog_10_method_51_code
def yX8_isCritical : MethodName := ⟨RX8, "isCritical", "(II)Z"⟩
abbrev cX8_isTime : ByteArray := prog_10_method_52_code
def yX8_isTime : MethodName := ⟨RX8, "isTime", "(II)Z"⟩
abbrev cX8_does : ByteArray := prog_10_method_53_code
def yX8_does : MethodName := ⟨RX8, "does", "(I)Z"⟩
abbrev cX8_judge : ByteArray := prog_10_method_54_code
def yX8_judge : MethodName := ⟨RX8, "judge", "(IJ)I"⟩
abbrev cX8_orders : ByteArray := prog_10_method_55_code
def yX8_orders : MethodName := ⟨RX8, "orders", "(II)I"⟩
abbrev cX8_share : ByteArray := prog_10_method_56_code
def yX8_share : MethodName := ⟨RX8, "share", "(IZ)I"⟩
abbrev cX8_see : ByteArray := prog_10_method_57_code
def yX8_see : MethodName := ⟨RX8, "see", "(III)I"⟩
abbrev cX8_unsee : ByteArray := prog_10_method_58_code
def yX8_unsee : MethodName := ⟨RX8, "unsee", "()I"⟩
abbrev cX8_explains : ByteArray := prog_10_method_59_code
def yX8_explains : MethodName := ⟨RX8, "explains", "(II)Z"⟩
abbrev cX8_began : ByteArray := prog_10_method_60_code
def yX8_began : MethodName := ⟨RX8, "began", "(I)I"⟩
abbrev cX8_drops : ByteArray := prog_10_method_61_code
def yX8_drops : MethodName := ⟨RX8, "drops", "(II)I"⟩
abbrev cX8_dropped : ByteArray := prog_10_method_62_code
def yX8_dropped : MethodName := ⟨RX8, "dropped", "(IIIZ)I"⟩
abbrev cX8_seed : ByteArray := prog_10_method_63_code
def yX8_seed : MethodName := ⟨RX8, "seed", "(J)J"⟩
abbrev cX8_draw : ByteArray := prog_10_method_64_code
def yX8_draw : MethodName := ⟨RX8, "draw", "(III)V"⟩
abbrev cX8_drawn : ByteArray := prog_10_method_65_code
def yX8_drawn : MethodName := ⟨RX8, "drawn", "(I)I"⟩
abbrev cX8_keep : ByteArray := prog_10_method_66_code
def yX8_keep : MethodName := ⟨RX8, "keep", "(I)I"⟩
abbrev cX8_again : ByteArray := prog_10_method_67_code
def yX8_again : MethodName := ⟨RX8, "again", "(I)I"⟩
def RJ6 : String := "java/lang/Integer"
abbrev cJ6_bitCount_0f7a4 : ByteArray := prog_11_method_49_code
def yJ6_bitCount_0f7a4 : MethodName := ⟨RJ6, "bitCount", "(I)I"⟩
def RJ9 : String := "java/lang/Math"
abbrev cJ9_max_7cf53 : ByteArray := prog_12_method_65_code
def yJ9_max_7cf53 : MethodName := ⟨RJ9, "max", "(II)I"⟩
abbrev cJ9_min_7cf53 : ByteArray := prog_12_method_69_code
def yJ9_min_7cf53 : MethodName := ⟨RJ9, "min", "(II)I"⟩
def RJ7 : String := "java/util/Arrays"
abbrev cJ7_fill_53178 : ByteArray := prog_14_method_103_code
def yJ7_fill_53178 : MethodName := ⟨RJ7, "fill", "([II)V"⟩
def RL : String := "TurnRoundsLaw"
abbrev cL_law : ByteArray := code
def yL_law : MethodName := ⟨RL, "law", "([I)Z"⟩
abbrev vwCl : List vw_C := [(RX0, TX0, 3), (RX1, TX1, 4), (RX2, TX2, 2), (RX3, TX3, 2), (RX4, TX4, 4), (RX5, TX5, 4), (RX6, TX6, 3), (RX7, TX7, 13), (RX8, TX8, 31)]
end
section
theorem dX0_init_0 : decode cX0_init 0 = .ok (.aload_n 0, 1) := by decide +kernel
theorem dX0_init_1 : decode cX0_init 1 = .ok (.invokespecial 3, 3) := by decide +kernel
theorem dX0_init_4 : decode cX0_init 4 = .ok (.aload_n 0, 1) := by decide +kernel
theorem dX0_init_5 : decode cX0_init 5 = .ok (.bipush 6, 2) := by decide +kernel
theorem dX0_init_7 : decode cX0_init 7 = .ok (.newarray .int, 2) := by decide +kernel
theorem dX0_init_9 : decode cX0_init 9 = .ok (.putfield 9, 3) := by decide +kernel
theorem dX0_init_12 : decode cX0_init 12 = .ok (.aload_n 0, 1) := by decide +kernel
theorem dX0_init_13 : decode cX0_init 13 = .ok (.sipush 246, 3) := by decide +kernel
theorem dX0_init_16 : decode cX0_init 16 = .ok (.newarray .int, 2) := by decide +kernel
theorem dX0_init_18 : decode cX0_init 18 = .ok (.putfield 15, 3) := by decide +kernel
theorem dX0_init_21 : decode cX0_init 21 = .ok (.return_, 1) := by decide +kernel
theorem dX0_settle_0 : decode cX0_settle 0 = .ok (.aload_n 0, 1) := by decide +kernel
theorem dX0_settle_1 : decode cX0_settle 1 = .ok (.iload_n 2, 1) := by decide +kernel
theorem dX0_settle_2 : decode cX0_settle 2 = .ok (.putfield 18, 3) := by decide +kernel
theorem dX0_settle_5 : decode cX0_settle 5 = .ok (.aload_n 0, 1) := by decide +kernel
theorem dX0_settle_6 : decode cX0_settle 6 = .ok (.getfield 9, 3) := by decide +kernel
theorem dX0_settle_9 : decode cX0_settle 9 = .ok (.iconst 0, 1) := by decide +kernel
theorem dX0_settle_10 : decode cX0_settle 10 = .ok (.invokestatic 22, 3) := by decide +kernel
theorem dX0_settle_13 : decode cX0_settle 13 = .ok (.iconst 0, 1) := by decide +kernel
theorem dX0_settle_14 : decode cX0_settle 14 = .ok (.istore_n 3, 1) := by decide +kernel
theorem dX0_settle_15 : decode cX0_settle 15 = .ok (.iload_n 3, 1) := by decide +kernel
theorem dX0_settle_16 : decode cX0_settle 16 = .ok (.aload_n 1, 1) := by decide +kernel
theorem dX0_settle_17 : decode cX0_settle 17 = .ok (.getfield 28, 3) := by decide +kernel
theorem dX0_settle_20 : decode cX0_settle 20 = .ok (.if_icmp .ge 94, 3) := by decide +kernel
theorem dX0_settle_23 : decode cX0_settle 23 = .ok (.iconst 0, 1) := by decide +kernel
theorem dX0_settle_24 : decode cX0_settle 24 = .ok (.istore 4, 2) := by decide +kernel
theorem dX0_settle_26 : decode cX0_settle 26 = .ok (.iload 4, 2) := by decide +kernel
theorem dX0_settle_28 : decode cX0_settle 28 = .ok (.aload_n 1, 1) := by decide +kernel
theorem dX0_settle_29 : decode cX0_settle 29 = .ok (.getfield 28, 3) := by decide +kernel
theorem dX0_settle_32 : decode cX0_settle 32 = .ok (.if_icmp .ge 76, 3) := by decide +kernel
theorem dX0_settle_35 : decode cX0_settle 35 = .ok (.iconst 0, 1) := by decide +kernel
theorem dX0_settle_36 : decode cX0_settle 36 = .ok (.istore 5, 2) := by decide +kernel
theorem dX0_settle_38 : decode cX0_settle 38 = .ok (.iload 5, 2) := by decide +kernel
theorem dX0_settle_40 : decode cX0_settle 40 = .ok (.aload_n 1, 1) := by decide +kernel
theorem dX0_settle_41 : decode cX0_settle 41 = .ok (.getfield 28, 3) := by decide +kernel
theorem dX0_settle_44 : decode cX0_settle 44 = .ok (.if_icmp .ge 58, 3) := by decide +kernel
theorem dX0_settle_47 : decode cX0_settle 47 = .ok (.aload_n 1, 1) := by decide +kernel
theorem dX0_settle_48 : decode cX0_settle 48 = .ok (.iload 4, 2) := by decide +kernel
theorem dX0_settle_50 : decode cX0_settle 50 = .ok (.iload 5, 2) := by decide +kernel
theorem dX0_settle_52 : decode cX0_settle 52 = .ok (.invokevirtual 33, 3) := by decide +kernel
theorem dX0_settle_55 : decode cX0_settle 55 = .ok (.istore 6, 2) := by decide +kernel
theorem dX0_settle_57 : decode cX0_settle 57 = .ok (.iload 6, 2) := by decide +kernel
theorem dX0_settle_59 : decode cX0_settle 59 = .ok (.bipush (-9), 2) := by decide +kernel
theorem dX0_settle_61 : decode cX0_settle 61 = .ok (.if_icmp .eq 35, 3) := by decide +kernel
theorem dX0_settle_64 : decode cX0_settle 64 = .ok (.aload_n 0, 1) := by decide +kernel
theorem dX0_settle_65 : decode cX0_settle 65 = .ok (.getfield 9, 3) := by decide +kernel
theorem dX0_settle_68 : decode cX0_settle 68 = .ok (.iload 5, 2) := by decide +kernel
theorem dX0_settle_70 : decode cX0_settle 70 = .ok (.aload_n 0, 1) := by decide +kernel
theorem dX0_settle_71 : decode cX0_settle 71 = .ok (.getfield 9, 3) := by decide +kernel
theorem dX0_settle_74 : decode cX0_settle 74 = .ok (.iload 5, 2) := by decide +kernel
theorem dX0_settle_76 : decode cX0_settle 76 = .ok (.iaload, 1) := by decide +kernel
theorem dX0_settle_77 : decode cX0_settle 77 = .ok (.aload_n 0, 1) := by decide +kernel
theorem dX0_settle_78 : decode cX0_settle 78 = .ok (.getfield 9, 3) := by decide +kernel
theorem dX0_settle_81 : decode cX0_settle 81 = .ok (.iload 4, 2) := by decide +kernel
theorem dX0_settle_83 : decode cX0_settle 83 = .ok (.iaload, 1) := by decide +kernel
theorem dX0_settle_84 : decode cX0_settle 84 = .ok (.iload 6, 2) := by decide +kernel
theorem dX0_settle_86 : decode cX0_settle 86 = .ok (.iadd, 1) := by decide +kernel
theorem dX0_settle_87 : decode cX0_settle 87 = .ok (.aload_n 0, 1) := by decide +kernel
theorem dX0_settle_88 : decode cX0_settle 88 = .ok (.getfield 18, 3) := by decide +kernel
theorem dX0_settle_91 : decode cX0_settle 91 = .ok (.isub, 1) := by decide +kernel
theorem dX0_settle_92 : decode cX0_settle 92 = .ok (.invokestatic 37, 3) := by decide +kernel
theorem dX0_settle_95 : decode cX0_settle 95 = .ok (.iastore, 1) := by decide +kernel
theorem dX0_settle_96 : decode cX0_settle 96 = .ok (.iinc 5 1, 3) := by decide +kernel
theorem dX0_settle_99 : decode cX0_settle 99 = .ok (.goto (-61), 3) := by decide +kernel
theorem dX0_settle_102 : decode cX0_settle 102 = .ok (.iinc 4 1, 3) := by decide +kernel
theorem dX0_settle_105 : decode cX0_settle 105 = .ok (.goto (-79), 3) := by decide +kernel
theorem dX0_settle_108 : decode cX0_settle 108 = .ok (.iinc 3 1, 3) := by decide +kernel
theorem dX0_settle_111 : decode cX0_settle 111 = .ok (.goto (-96), 3) := by decide +kernel
theorem dX0_settle_114 : decode cX0_settle 114 = .ok (.return_, 1) := by decide +kernel
theorem dX0_timeOf_0 : decode cX0_timeOf 0 = .ok (.iload_n 1, 1) := by decide +kernel
theorem dX0_timeOf_1 : decode cX0_timeOf 1 = .ok (.ifCond .lt 18, 3) := by decide +kernel
theorem dX0_timeOf_4 : decode cX0_timeOf 4 = .ok (.iload_n 1, 1) := by decide +kernel
theorem dX0_timeOf_5 : decode cX0_timeOf 5 = .ok (.bipush 6, 2) := by decide +kernel
theorem dX0_timeOf_7 : decode cX0_timeOf 7 = .ok (.if_icmp .ge 12, 3) := by decide +kernel
theorem dX0_timeOf_10 : decode cX0_timeOf 10 = .ok (.aload_n 0, 1) := by decide +kernel
theorem dX0_timeOf_11 : decode cX0_timeOf 11 = .ok (.getfield 9, 3) := by decide +kernel
theorem dX0_timeOf_14 : decode cX0_timeOf 14 = .ok (.iload_n 1, 1) := by decide +kernel
theorem dX0_timeOf_15 : decode cX0_timeOf 15 = .ok (.iaload, 1) := by decide +kernel
theorem dX0_timeOf_16 : decode cX0_timeOf 16 = .ok (.goto 4, 3) := by decide +kernel
theorem dX0_timeOf_19 : decode cX0_timeOf 19 = .ok (.iconst 0, 1) := by decide +kernel
theorem dX0_timeOf_20 : decode cX0_timeOf 20 = .ok (.ireturn, 1) := by decide +kernel
theorem dX0_spareOf_0 : decode cX0_spareOf 0 = .ok (.aload_n 0, 1) := by decide +kernel
theorem dX0_spareOf_1 : decode cX0_spareOf 1 = .ok (.iload_n 3, 1) := by decide +kernel
theorem dX0_spareOf_2 : decode cX0_spareOf 2 = .ok (.invokevirtual 42, 3) := by decide +kernel
theorem dX0_spareOf_5 : decode cX0_spareOf 5 = .ok (.aload_n 0, 1) := by decide +kernel
theorem dX0_spareOf_6 : decode cX0_spareOf 6 = .ok (.getfield 18, 3) := by decide +kernel
theorem dX0_spareOf_9 : decode cX0_spareOf 9 = .ok (.iadd, 1) := by decide +kernel
theorem dX0_spareOf_10 : decode cX0_spareOf 10 = .ok (.aload_n 0, 1) := by decide +kernel
theorem dX0_spareOf_11 : decode cX0_spareOf 11 = .ok (.iload_n 2, 1) := by decide +kernel
theorem dX0_spareOf_12 : decode cX0_spareOf 12 = .ok (.invokevirtual 42, 3) := by decide +kernel
theorem dX0_spareOf_15 : decode cX0_spareOf 15 = .ok (.isub, 1) := by decide +kernel
theorem dX0_spareOf_16 : decode cX0_spareOf 16 = .ok (.aload_n 1, 1) := by decide +kernel
theorem dX0_spareOf_17 : decode cX0_spareOf 17 = .ok (.iload_n 2, 1) := by decide +kernel
theorem dX0_spareOf_18 : decode cX0_spareOf 18 = .ok (.iload_n 3, 1) := by decide +kernel
theorem dX0_spareOf_19 : decode cX0_spareOf 19 = .ok (.invokevirtual 33, 3) := by decide +kernel
theorem dX0_spareOf_22 : decode cX0_spareOf 22 = .ok (.isub, 1) := by decide +kernel
theorem dX0_spareOf_23 : decode cX0_spareOf 23 = .ok (.ireturn, 1) := by decide +kernel
theorem dX0_spread_0 : decode cX0_spread 0 = .ok (.iconst 0, 1) := by decide +kernel
theorem dX0_spread_1 : decode cX0_spread 1 = .ok (.istore 4, 2) := by decide +kernel
theorem dX0_spread_3 : decode cX0_spread 3 = .ok (.iload 4, 2) := by decide +kernel
theorem dX0_spread_5 : decode cX0_spread 5 = .ok (.aload_n 1, 1) := by decide +kernel
theorem dX0_spread_6 : decode cX0_spread 6 = .ok (.getfield 28, 3) := by decide +kernel
theorem dX0_spread_9 : decode cX0_spread 9 = .ok (.if_icmp .ge 28, 3) := by decide +kernel
theorem dX0_spread_12 : decode cX0_spread 12 = .ok (.aload_n 0, 1) := by decide +kernel
theorem dX0_spread_13 : decode cX0_spread 13 = .ok (.getfield 15, 3) := by decide +kernel
theorem dX0_spread_16 : decode cX0_spread 16 = .ok (.iload 4, 2) := by decide +kernel
theorem dX0_spread_18 : decode cX0_spread 18 = .ok (.iload 4, 2) := by decide +kernel
theorem dX0_spread_20 : decode cX0_spread 20 = .ok (.iload_n 2, 1) := by decide +kernel
theorem dX0_spread_21 : decode cX0_spread 21 = .ok (.if_icmp .ne 7, 3) := by decide +kernel
theorem dX0_spread_24 : decode cX0_spread 24 = .ok (.iconst 0, 1) := by decide +kernel
theorem dX0_spread_25 : decode cX0_spread 25 = .ok (.goto 5, 3) := by decide +kernel
theorem dX0_spread_28 : decode cX0_spread 28 = .ok (.ldc 46, 2) := by decide +kernel
theorem dX0_spread_30 : decode cX0_spread 30 = .ok (.iastore, 1) := by decide +kernel
theorem dX0_spread_31 : decode cX0_spread 31 = .ok (.iinc 4 1, 3) := by decide +kernel
theorem dX0_spread_34 : decode cX0_spread 34 = .ok (.goto (-31), 3) := by decide +kernel
theorem dX0_spread_37 : decode cX0_spread 37 = .ok (.iconst 1, 1) := by decide +kernel
theorem dX0_spread_38 : decode cX0_spread 38 = .ok (.istore 4, 2) := by decide +kernel
theorem dX0_spread_40 : decode cX0_spread 40 = .ok (.iload 4, 2) := by decide +kernel
theorem dX0_spread_42 : decode cX0_spread 42 = .ok (.iload_n 3, 1) := by decide +kernel
theorem dX0_spread_43 : decode cX0_spread 43 = .ok (.if_icmp .gt 58, 3) := by decide +kernel
theorem dX0_spread_46 : decode cX0_spread 46 = .ok (.iload 4, 2) := by decide +kernel
theorem dX0_spread_48 : decode cX0_spread 48 = .ok (.bipush 40, 2) := by decide +kernel
theorem dX0_spread_50 : decode cX0_spread 50 = .ok (.if_icmp .gt 51, 3) := by decide +kernel
theorem dX0_spread_53 : decode cX0_spread 53 = .ok (.iconst 0, 1) := by decide +kernel
theorem dX0_spread_54 : decode cX0_spread 54 = .ok (.istore 5, 2) := by decide +kernel
theorem dX0_spread_56 : decode cX0_spread 56 = .ok (.iload 5, 2) := by decide +kernel
theorem dX0_spread_58 : decode cX0_spread 58 = .ok (.aload_n 1, 1) := by decide +kernel
theorem dX0_spread_59 : decode cX0_spread 59 = .ok (.getfield 28, 3) := by decide +kernel
theorem dX0_spread_62 : decode cX0_spread 62 = .ok (.if_icmp .ge 33, 3) := by decide +kernel
theorem dX0_spread_65 : decode cX0_spread 65 = .ok (.aload_n 0, 1) := by decide +kernel
theorem dX0_spread_66 : decode cX0_spread 66 = .ok (.getfield 15, 3) := by decide +kernel
theorem dX0_spread_69 : decode cX0_spread 69 = .ok (.iload 4, 2) := by decide +kernel
theorem dX0_spread_71 : decode cX0_spread 71 = .ok (.bipush 6, 2) := by decide +kernel
theorem dX0_spread_73 : decode cX0_spread 73 = .ok (.imul, 1) := by decide +kernel
theorem dX0_spread_74 : decode cX0_spread 74 = .ok (.iload 5, 2) := by decide +kernel
theorem dX0_spread_76 : decode cX0_spread 76 = .ok (.iadd, 1) := by decide +kernel
theorem dX0_spread_77 : decode cX0_spread 77 = .ok (.aload_n 0, 1) := by decide +kernel
theorem dX0_spread_78 : decode cX0_spread 78 = .ok (.aload_n 1, 1) := by decide +kernel
theorem dX0_spread_79 : decode cX0_spread 79 = .ok (.iload 4, 2) := by decide +kernel
theorem dX0_spread_81 : decode cX0_spread 81 = .ok (.iconst 1, 1) := by decide +kernel
theorem dX0_spread_82 : decode cX0_spread 82 = .ok (.isub, 1) := by decide +kernel
theorem dX0_spread_83 : decode cX0_spread 83 = .ok (.iload 5, 2) := by decide +kernel
theorem dX0_spread_85 : decode cX0_spread 85 = .ok (.invokevirtual 47, 3) := by decide +kernel
theorem dX0_spread_88 : decode cX0_spread 88 = .ok (.iastore, 1) := by decide +kernel
theorem dX0_spread_89 : decode cX0_spread 89 = .ok (.iinc 5 1, 3) := by decide +kernel
theorem dX0_spread_92 : decode cX0_spread 92 = .ok (.goto (-36), 3) := by decide +kernel
theorem dX0_spread_95 : decode cX0_spread 95 = .ok (.iinc 4 1, 3) := by decide +kernel
theorem dX0_spread_98 : decode cX0_spread 98 = .ok (.goto (-58), 3) := by decide +kernel
theorem dX0_spread_101 : decode cX0_spread 101 = .ok (.return_, 1) := by decide +kernel
theorem dX0_leastSpare_0 : decode cX0_leastSpare 0 = .ok (.ldc 46, 2) := by decide +kernel
theorem dX0_leastSpare_2 : decode cX0_leastSpare 2 = .ok (.istore 4, 2) := by decide +kernel
theorem dX0_leastSpare_4 : decode cX0_leastSpare 4 = .ok (.iconst 0, 1) := by decide +kernel
theorem dX0_leastSpare_5 : decode cX0_leastSpare 5 = .ok (.istore 5, 2) := by decide +kernel
theorem dX0_leastSpare_7 : decode cX0_leastSpare 7 = .ok (.iload 5, 2) := by decide +kernel
theorem dX0_leastSpare_9 : decode cX0_leastSpare 9 = .ok (.aload_n 1, 1) := by decide +kernel
theorem dX0_leastSpare_10 : decode cX0_leastSpare 10 = .ok (.getfield 28, 3) := by decide +kernel
theorem dX0_leastSpare_13 : decode cX0_leastSpare 13 = .ok (.if_icmp .ge 60, 3) := by decide +kernel
theorem dX0_leastSpare_16 : decode cX0_leastSpare 16 = .ok (.aload_n 0, 1) := by decide +kernel
theorem dX0_leastSpare_17 : decode cX0_leastSpare 17 = .ok (.getfield 15, 3) := by decide +kernel
theorem dX0_leastSpare_20 : decode cX0_leastSpare 20 = .ok (.iload_n 2, 1) := by decide +kernel
theorem dX0_leastSpare_21 : decode cX0_leastSpare 21 = .ok (.bipush 6, 2) := by decide +kernel
theorem dX0_leastSpare_23 : decode cX0_leastSpare 23 = .ok (.imul, 1) := by decide +kernel
theorem dX0_leastSpare_24 : decode cX0_leastSpare 24 = .ok (.iload 5, 2) := by decide +kernel
theorem dX0_leastSpare_26 : decode cX0_leastSpare 26 = .ok (.iadd, 1) := by decide +kernel
theorem dX0_leastSpare_27 : decode cX0_leastSpare 27 = .ok (.iaload, 1) := by decide +kernel
theorem dX0_leastSpare_28 : decode cX0_leastSpare 28 = .ok (.istore 6, 2) := by decide +kernel
theorem dX0_leastSpare_30 : decode cX0_leastSpare 30 = .ok (.iload 6, 2) := by decide +kernel
theorem dX0_leastSpare_32 : decode cX0_leastSpare 32 = .ok (.ldc 46, 2) := by decide +kernel
theorem dX0_leastSpare_34 : decode cX0_leastSpare 34 = .ok (.if_icmp .eq 33, 3) := by decide +kernel
theorem dX0_leastSpare_37 : decode cX0_leastSpare 37 = .ok (.aload_n 1, 1) := by decide +kernel
theorem dX0_leastSpare_38 : decode cX0_leastSpare 38 = .ok (.iload 5, 2) := by decide +kernel
theorem dX0_leastSpare_40 : decode cX0_leastSpare 40 = .ok (.iload_n 3, 1) := by decide +kernel
theorem dX0_leastSpare_41 : decode cX0_leastSpare 41 = .ok (.invokevirtual 33, 3) := by decide +kernel
theorem dX0_leastSpare_44 : decode cX0_leastSpare 44 = .ok (.bipush (-9), 2) := by decide +kernel
theorem dX0_leastSpare_46 : decode cX0_leastSpare 46 = .ok (.if_icmp .eq 21, 3) := by decide +kernel
theorem dX0_leastSpare_49 : decode cX0_leastSpare 49 = .ok (.iload 4, 2) := by decide +kernel
theorem dX0_leastSpare_51 : decode cX0_leastSpare 51 = .ok (.iload 6, 2) := by decide +kernel
theorem dX0_leastSpare_53 : decode cX0_leastSpare 53 = .ok (.aload_n 0, 1) := by decide +kernel
theorem dX0_leastSpare_54 : decode cX0_leastSpare 54 = .ok (.aload_n 1, 1) := by decide +kernel
theorem dX0_leastSpare_55 : decode cX0_leastSpare 55 = .ok (.iload 5, 2) := by decide +kernel
theorem dX0_leastSpare_57 : decode cX0_leastSpare 57 = .ok (.iload_n 3, 1) := by decide +kernel
theorem dX0_leastSpare_58 : decode cX0_leastSpare 58 = .ok (.invokevirtual 51, 3) := by decide +kernel
theorem dX0_leastSpare_61 : decode cX0_leastSpare 61 = .ok (.iadd, 1) := by decide +kernel
theorem dX0_leastSpare_62 : decode cX0_leastSpare 62 = .ok (.invokestatic 54, 3) := by decide +kernel
theorem dX0_leastSpare_65 : decode cX0_leastSpare 65 = .ok (.istore 4, 2) := by decide +kernel
theorem dX0_leastSpare_67 : decode cX0_leastSpare 67 = .ok (.iinc 5 1, 3) := by decide +kernel
theorem dX0_leastSpare_70 : decode cX0_leastSpare 70 = .ok (.goto (-63), 3) := by decide +kernel
theorem dX0_leastSpare_73 : decode cX0_leastSpare 73 = .ok (.iload 4, 2) := by decide +kernel
theorem dX0_leastSpare_75 : decode cX0_leastSpare 75 = .ok (.ireturn, 1) := by decide +kernel
theorem dX0_lateness_0 : decode cX0_lateness 0 = .ok (.iload_n 2, 1) := by decide +kernel
theorem dX0_lateness_1 : decode cX0_lateness 1 = .ok (.ifCond .lt 19, 3) := by decide +kernel
theorem dX0_lateness_4 : decode cX0_lateness 4 = .ok (.iload_n 2, 1) := by decide +kernel
theorem dX0_lateness_5 : decode cX0_lateness 5 = .ok (.bipush 6, 2) := by decide +kernel
theorem dX0_lateness_7 : decode cX0_lateness 7 = .ok (.if_icmp .ge 13, 3) := by decide +kernel
theorem dX0_lateness_10 : decode cX0_lateness 10 = .ok (.iload_n 3, 1) := by decide +kernel
theorem dX0_lateness_11 : decode cX0_lateness 11 = .ok (.ifCond .lt 9, 3) := by decide +kernel
theorem dX0_lateness_14 : decode cX0_lateness 14 = .ok (.iload_n 3, 1) := by decide +kernel
theorem dX0_lateness_15 : decode cX0_lateness 15 = .ok (.bipush 40, 2) := by decide +kernel
theorem dX0_lateness_17 : decode cX0_lateness 17 = .ok (.if_icmp .le 5, 3) := by decide +kernel
theorem dX0_lateness_20 : decode cX0_lateness 20 = .ok (.iconst 0, 1) := by decide +kernel
theorem dX0_lateness_21 : decode cX0_lateness 21 = .ok (.ireturn, 1) := by decide +kernel
theorem dX0_lateness_22 : decode cX0_lateness 22 = .ok (.iconst 0, 1) := by decide +kernel
theorem dX0_lateness_23 : decode cX0_lateness 23 = .ok (.iload_n 1, 1) := by decide +kernel
theorem dX0_lateness_24 : decode cX0_lateness 24 = .ok (.aload_n 0, 1) := by decide +kernel
theorem dX0_lateness_25 : decode cX0_lateness 25 = .ok (.getfield 15, 3) := by decide +kernel
theorem dX0_lateness_28 : decode cX0_lateness 28 = .ok (.iload_n 3, 1) := by decide +kernel
theorem dX0_lateness_29 : decode cX0_lateness 29 = .ok (.bipush 6, 2) := by decide +kernel
theorem dX0_lateness_31 : decode cX0_lateness 31 = .ok (.imul, 1) := by decide +kernel
theorem dX0_lateness_32 : decode cX0_lateness 32 = .ok (.iload_n 2, 1) := by decide +kernel
theorem dX0_lateness_33 : decode cX0_lateness 33 = .ok (.iadd, 1) := by decide +kernel
theorem dX0_lateness_34 : decode cX0_lateness 34 = .ok (.iaload, 1) := by decide +kernel
theorem dX0_lateness_35 : decode cX0_lateness 35 = .ok (.isub, 1) := by decide +kernel
theorem dX0_lateness_36 : decode cX0_lateness 36 = .ok (.invokestatic 37, 3) := by decide +kernel
theorem dX0_lateness_39 : decode cX0_lateness 39 = .ok (.ireturn, 1) := by decide +kernel
theorem dX0_firstQuietRound_0 : decode cX0_firstQuietRound 0 = .ok (.iconst 1, 1) := by decide +kernel
theorem dX0_firstQuietRound_1 : decode cX0_firstQuietRound 1 = .ok (.istore_n 3, 1) := by decide +kernel
theorem dX0_firstQuietRound_2 : decode cX0_firstQuietRound 2 = .ok (.iload_n 3, 1) := by decide +kernel
theorem dX0_firstQuietRound_3 : decode cX0_firstQuietRound 3 = .ok (.bipush 40, 2) := by decide +kernel
theorem dX0_firstQuietRound_5 : decode cX0_firstQuietRound 5 = .ok (.if_icmp .gt 49, 3) := by decide +kernel
theorem dX0_firstQuietRound_8 : decode cX0_firstQuietRound 8 = .ok (.iconst 0, 1) := by decide +kernel
theorem dX0_firstQuietRound_9 : decode cX0_firstQuietRound 9 = .ok (.istore 4, 2) := by decide +kernel
theorem dX0_firstQuietRound_11 : decode cX0_firstQuietRound 11 = .ok (.iconst 0, 1) := by decide +kernel
theorem dX0_firstQuietRound_12 : decode cX0_firstQuietRound 12 = .ok (.istore 5, 2) := by decide +kernel
theorem dX0_firstQuietRound_14 : decode cX0_firstQuietRound 14 = .ok (.iload 5, 2) := by decide +kernel
theorem dX0_firstQuietRound_16 : decode cX0_firstQuietRound 16 = .ok (.iload_n 2, 1) := by decide +kernel
theorem dX0_firstQuietRound_17 : decode cX0_firstQuietRound 17 = .ok (.if_icmp .ge 24, 3) := by decide +kernel
theorem dX0_firstQuietRound_20 : decode cX0_firstQuietRound 20 = .ok (.iload 4, 2) := by decide +kernel
theorem dX0_firstQuietRound_22 : decode cX0_firstQuietRound 22 = .ok (.aload_n 0, 1) := by decide +kernel
theorem dX0_firstQuietRound_23 : decode cX0_firstQuietRound 23 = .ok (.iload_n 1, 1) := by decide +kernel
theorem dX0_firstQuietRound_24 : decode cX0_firstQuietRound 24 = .ok (.iload 5, 2) := by decide +kernel
theorem dX0_firstQuietRound_26 : decode cX0_firstQuietRound 26 = .ok (.iload_n 3, 1) := by decide +kernel
theorem dX0_firstQuietRound_27 : decode cX0_firstQuietRound 27 = .ok (.invokevirtual 57, 3) := by decide +kernel
theorem dX0_firstQuietRound_30 : decode cX0_firstQuietRound 30 = .ok (.invokestatic 37, 3) := by decide +kernel
theorem dX0_firstQuietRound_33 : decode cX0_firstQuietRound 33 = .ok (.istore 4, 2) := by decide +kernel
theorem dX0_firstQuietRound_35 : decode cX0_firstQuietRound 35 = .ok (.iinc 5 1, 3) := by decide +kernel
theorem dX0_firstQuietRound_38 : decode cX0_firstQuietRound 38 = .ok (.goto (-24), 3) := by decide +kernel
theorem dX0_firstQuietRound_41 : decode cX0_firstQuietRound 41 = .ok (.iload 4, 2) := by decide +kernel
theorem dX0_firstQuietRound_43 : decode cX0_firstQuietRound 43 = .ok (.ifCond .ne 5, 3) := by decide +kernel
theorem dX0_firstQuietRound_46 : decode cX0_firstQuietRound 46 = .ok (.iload_n 3, 1) := by decide +kernel
theorem dX0_firstQuietRound_47 : decode cX0_firstQuietRound 47 = .ok (.ireturn, 1) := by decide +kernel
theorem dX0_firstQuietRound_48 : decode cX0_firstQuietRound 48 = .ok (.iinc 3 1, 3) := by decide +kernel
theorem dX0_firstQuietRound_51 : decode cX0_firstQuietRound 51 = .ok (.goto (-49), 3) := by decide +kernel
theorem dX0_firstQuietRound_54 : decode cX0_firstQuietRound 54 = .ok (.bipush (-9), 2) := by decide +kernel
theorem dX0_firstQuietRound_56 : decode cX0_firstQuietRound 56 = .ok (.ireturn, 1) := by decide +kernel
theorem dX1_init_0 : decode cX1_init 0 = .ok (.aload_n 0, 1) := by decide +kernel
theorem dX1_init_1 : decode cX1_init 1 = .ok (.invokespecial 3, 3) := by decide +kernel
theorem dX1_init_4 : decode cX1_init 4 = .ok (.aload_n 0, 1) := by decide +kernel
theorem dX1_init_5 : decode cX1_init 5 = .ok (.bipush 14, 2) := by decide +kernel
theorem dX1_init_7 : decode cX1_init 7 = .ok (.newarray .int, 2) := by decide +kernel
theorem dX1_init_9 : decode cX1_init 9 = .ok (.putfield 9, 3) := by decide +kernel
theorem dX1_init_12 : decode cX1_init 12 = .ok (.aload_n 0, 1) := by decide +kernel
theorem dX1_init_13 : decode cX1_init 13 = .ok (.bipush 14, 2) := by decide +kernel
theorem dX1_init_15 : decode cX1_init 15 = .ok (.newarray .int, 2) := by decide +kernel
theorem dX1_init_17 : decode cX1_init 17 = .ok (.putfield 15, 3) := by decide +kernel
theorem dX1_init_20 : decode cX1_init 20 = .ok (.aload_n 0, 1) := by decide +kernel
theorem dX1_init_21 : decode cX1_init 21 = .ok (.bipush 14, 2) := by decide +kernel
theorem dX1_init_23 : decode cX1_init 23 = .ok (.newarray .int, 2) := by decide +kernel
theorem dX1_init_25 : decode cX1_init 25 = .ok (.putfield 18, 3) := by decide +kernel
theorem dX1_init_28 : decode cX1_init 28 = .ok (.return_, 1) := by decide +kernel
theorem dX1_forget_0 : decode cX1_forget 0 = .ok (.aload_n 0, 1) := by decide +kernel
theorem dX1_forget_1 : decode cX1_forget 1 = .ok (.iconst 0, 1) := by decide +kernel
theorem dX1_forget_2 : decode cX1_forget 2 = .ok (.putfield 21, 3) := by decide +kernel
theorem dX1_forget_5 : decode cX1_forget 5 = .ok (.return_, 1) := by decide +kernel
theorem dX1_add_0 : decode cX1_add 0 = .ok (.aload_n 0, 1) := by decide +kernel
theorem dX1_add_1 : decode cX1_add 1 = .ok (.getfield 21, 3) := by decide +kernel
theorem dX1_add_4 : decode cX1_add 4 = .ok (.bipush 14, 2) := by decide +kernel
theorem dX1_add_6 : decode cX1_add 6 = .ok (.if_icmp .lt 7, 3) := by decide +kernel
theorem dX1_add_9 : decode cX1_add 9 = .ok (.aload_n 0, 1) := by decide +kernel
theorem dX1_add_10 : decode cX1_add 10 = .ok (.invokevirtual 25, 3) := by decide +kernel
theorem dX1_add_13 : decode cX1_add 13 = .ok (.aload_n 0, 1) := by decide +kernel
theorem dX1_add_14 : decode cX1_add 14 = .ok (.getfield 21, 3) := by decide +kernel
theorem dX1_add_17 : decode cX1_add 17 = .ok (.ifCond .lt 12, 3) := by decide +kernel
theorem dX1_add_20 : decode cX1_add 20 = .ok (.aload_n 0, 1) := by decide +kernel
theorem dX1_add_21 : decode cX1_add 21 = .ok (.getfield 21, 3) := by decide +kernel
theorem dX1_add_24 : decode cX1_add 24 = .ok (.bipush 14, 2) := by decide +kernel
theorem dX1_add_26 : decode cX1_add 26 = .ok (.if_icmp .lt 4, 3) := by decide +kernel
theorem dX1_add_29 : decode cX1_add 29 = .ok (.return_, 1) := by decide +kernel
theorem dX1_add_30 : decode cX1_add 30 = .ok (.aload_n 0, 1) := by decide +kernel
theorem dX1_add_31 : decode cX1_add 31 = .ok (.getfield 9, 3) := by decide +kernel
theorem dX1_add_34 : decode cX1_add 34 = .ok (.aload_n 0, 1) := by decide +kernel
theorem dX1_add_35 : decode cX1_add 35 = .ok (.getfield 21, 3) := by decide +kernel
theorem dX1_add_38 : decode cX1_add 38 = .ok (.iload_n 1, 1) := by decide +kernel
theorem dX1_add_39 : decode cX1_add 39 = .ok (.iastore, 1) := by decide +kernel
theorem dX1_add_40 : decode cX1_add 40 = .ok (.aload_n 0, 1) := by decide +kernel
theorem dX1_add_41 : decode cX1_add 41 = .ok (.getfield 15, 3) := by decide +kernel
theorem dX1_add_44 : decode cX1_add 44 = .ok (.aload_n 0, 1) := by decide +kernel
theorem dX1_add_45 : decode cX1_add 45 = .ok (.getfield 21, 3) := by decide +kernel
theorem dX1_add_48 : decode cX1_add 48 = .ok (.iload_n 2, 1) := by decide +kernel
theorem dX1_add_49 : decode cX1_add 49 = .ok (.iastore, 1) := by decide +kernel
theorem dX1_add_50 : decode cX1_add 50 = .ok (.aload_n 0, 1) := by decide +kernel
theorem dX1_add_51 : decode cX1_add 51 = .ok (.getfield 18, 3) := by decide +kernel
theorem dX1_add_54 : decode cX1_add 54 = .ok (.aload_n 0, 1) := by decide +kernel
theorem dX1_add_55 : decode cX1_add 55 = .ok (.getfield 21, 3) := by decide +kernel
theorem dX1_add_58 : decode cX1_add 58 = .ok (.iload_n 3, 1) := by decide +kernel
theorem dX1_add_59 : decode cX1_add 59 = .ok (.iastore, 1) := by decide +kernel
theorem dX1_add_60 : decode cX1_add 60 = .ok (.aload_n 0, 1) := by decide +kernel
theorem dX1_add_61 : decode cX1_add 61 = .ok (.dup, 1) := by decide +kernel
theorem dX1_add_62 : decode cX1_add 62 = .ok (.getfield 21, 3) := by decide +kernel
theorem dX1_add_65 : decode cX1_add 65 = .ok (.iconst 1, 1) := by decide +kernel
theorem dX1_add_66 : decode cX1_add 66 = .ok (.iadd, 1) := by decide +kernel
theorem dX1_add_67 : decode cX1_add 67 = .ok (.putfield 21, 3) := by decide +kernel
theorem dX1_add_70 : decode cX1_add 70 = .ok (.return_, 1) := by decide +kernel
theorem dX1_takeBack_0 : decode cX1_takeBack 0 = .ok (.aload_n 0, 1) := by decide +kernel
theorem dX1_takeBack_1 : decode cX1_takeBack 1 = .ok (.getfield 21, 3) := by decide +kernel
theorem dX1_takeBack_4 : decode cX1_takeBack 4 = .ok (.iconst 1, 1) := by decide +kernel
theorem dX1_takeBack_5 : decode cX1_takeBack 5 = .ok (.if_icmp .lt 12, 3) := by decide +kernel
theorem dX1_takeBack_8 : decode cX1_takeBack 8 = .ok (.aload_n 0, 1) := by decide +kernel
theorem dX1_takeBack_9 : decode cX1_takeBack 9 = .ok (.getfield 21, 3) := by decide +kernel
theorem dX1_takeBack_12 : decode cX1_takeBack 12 = .ok (.bipush 14, 2) := by decide +kernel
theorem dX1_takeBack_14 : decode cX1_takeBack 14 = .ok (.if_icmp .le 4, 3) := by decide +kernel
theorem dX1_takeBack_17 : decode cX1_takeBack 17 = .ok (.return_, 1) := by decide +kernel
theorem dX1_takeBack_18 : decode cX1_takeBack 18 = .ok (.aload_n 0, 1) := by decide +kernel
theorem dX1_takeBack_19 : decode cX1_takeBack 19 = .ok (.dup, 1) := by decide +kernel
theorem dX1_takeBack_20 : decode cX1_takeBack 20 = .ok (.getfield 21, 3) := by decide +kernel
theorem dX1_takeBack_23 : decode cX1_takeBack 23 = .ok (.iconst 1, 1) := by decide +kernel
theorem dX1_takeBack_24 : decode cX1_takeBack 24 = .ok (.isub, 1) := by decide +kernel
theorem dX1_takeBack_25 : decode cX1_takeBack 25 = .ok (.putfield 21, 3) := by decide +kernel
theorem dX1_takeBack_28 : decode cX1_takeBack 28 = .ok (.aload_n 1, 1) := by decide +kernel
theorem dX1_takeBack_29 : decode cX1_takeBack 29 = .ok (.aload_n 0, 1) := by decide +kernel
theorem dX1_takeBack_30 : decode cX1_takeBack 30 = .ok (.getfield 9, 3) := by decide +kernel
theorem dX1_takeBack_33 : decode cX1_takeBack 33 = .ok (.aload_n 0, 1) := by decide +kernel
theorem dX1_takeBack_34 : decode cX1_takeBack 34 = .ok (.getfield 21, 3) := by decide +kernel
theorem dX1_takeBack_37 : decode cX1_takeBack 37 = .ok (.iaload, 1) := by decide +kernel
theorem dX1_takeBack_38 : decode cX1_takeBack 38 = .ok (.aload_n 0, 1) := by decide +kernel
theorem dX1_takeBack_39 : decode cX1_takeBack 39 = .ok (.getfield 15, 3) := by decide +kernel
theorem dX1_takeBack_42 : decode cX1_takeBack 42 = .ok (.aload_n 0, 1) := by decide +kernel
theorem dX1_takeBack_43 : decode cX1_takeBack 43 = .ok (.getfield 21, 3) := by decide +kernel
theorem dX1_takeBack_46 : decode cX1_takeBack 46 = .ok (.iaload, 1) := by decide +kernel
theorem dX1_takeBack_47 : decode cX1_takeBack 47 = .ok (.aload_n 0, 1) := by decide +kernel
theorem dX1_takeBack_48 : decode cX1_takeBack 48 = .ok (.getfield 18, 3) := by decide +kernel
theorem dX1_takeBack_51 : decode cX1_takeBack 51 = .ok (.aload_n 0, 1) := by decide +kernel
theorem dX1_takeBack_52 : decode cX1_takeBack 52 = .ok (.getfield 21, 3) := by decide +kernel
theorem dX1_takeBack_55 : decode cX1_takeBack 55 = .ok (.iaload, 1) := by decide +kernel
theorem dX1_takeBack_56 : decode cX1_takeBack 56 = .ok (.invokevirtual 28, 3) := by decide +kernel
theorem dX1_takeBack_59 : decode cX1_takeBack 59 = .ok (.pop, 1) := by decide +kernel
theorem dX1_takeBack_60 : decode cX1_takeBack 60 = .ok (.return_, 1) := by decide +kernel
theorem dX1_forgetFirst_0 : decode cX1_forgetFirst 0 = .ok (.iconst 1, 1) := by decide +kernel
theorem dX1_forgetFirst_1 : decode cX1_forgetFirst 1 = .ok (.istore_n 1, 1) := by decide +kernel
theorem dX1_forgetFirst_2 : decode cX1_forgetFirst 2 = .ok (.iload_n 1, 1) := by decide +kernel
theorem dX1_forgetFirst_3 : decode cX1_forgetFirst 3 = .ok (.bipush 14, 2) := by decide +kernel
theorem dX1_forgetFirst_5 : decode cX1_forgetFirst 5 = .ok (.if_icmp .ge 51, 3) := by decide +kernel
theorem dX1_forgetFirst_8 : decode cX1_forgetFirst 8 = .ok (.aload_n 0, 1) := by decide +kernel
theorem dX1_forgetFirst_9 : decode cX1_forgetFirst 9 = .ok (.getfield 9, 3) := by decide +kernel
theorem dX1_forgetFirst_12 : decode cX1_forgetFirst 12 = .ok (.iload_n 1, 1) := by decide +kernel
theorem dX1_forgetFirst_13 : decode cX1_forgetFirst 13 = .ok (.iconst 1, 1) := by decide +kernel
theorem dX1_forgetFirst_14 : decode cX1_forgetFirst 14 = .ok (.isub, 1) := by decide +kernel
theorem dX1_forgetFirst_15 : decode cX1_forgetFirst 15 = .ok (.aload_n 0, 1) := by decide +kernel
theorem dX1_forgetFirst_16 : decode cX1_forgetFirst 16 = .ok (.getfield 9, 3) := by decide +kernel
theorem dX1_forgetFirst_19 : decode cX1_forgetFirst 19 = .ok (.iload_n 1, 1) := by decide +kernel
theorem dX1_forgetFirst_20 : decode cX1_forgetFirst 20 = .ok (.iaload, 1) := by decide +kernel
theorem dX1_forgetFirst_21 : decode cX1_forgetFirst 21 = .ok (.iastore, 1) := by decide +kernel
theorem dX1_forgetFirst_22 : decode cX1_forgetFirst 22 = .ok (.aload_n 0, 1) := by decide +kernel
theorem dX1_forgetFirst_23 : decode cX1_forgetFirst 23 = .ok (.getfield 15, 3) := by decide +kernel
theorem dX1_forgetFirst_26 : decode cX1_forgetFirst 26 = .ok (.iload_n 1, 1) := by decide +kernel
theorem dX1_forgetFirst_27 : decode cX1_forgetFirst 27 = .ok (.iconst 1, 1) := by decide +kernel
theorem dX1_forgetFirst_28 : decode cX1_forgetFirst 28 = .ok (.isub, 1) := by decide +kernel
theorem dX1_forgetFirst_29 : decode cX1_forgetFirst 29 = .ok (.aload_n 0, 1) := by decide +kernel
theorem dX1_forgetFirst_30 : decode cX1_forgetFirst 30 = .ok (.getfield 15, 3) := by decide +kernel
theorem dX1_forgetFirst_33 : decode cX1_forgetFirst 33 = .ok (.iload_n 1, 1) := by decide +kernel
theorem dX1_forgetFirst_34 : decode cX1_forgetFirst 34 = .ok (.iaload, 1) := by decide +kernel
theorem dX1_forgetFirst_35 : decode cX1_forgetFirst 35 = .ok (.iastore, 1) := by decide +kernel
theorem dX1_forgetFirst_36 : decode cX1_forgetFirst 36 = .ok (.aload_n 0, 1) := by decide +kernel
theorem dX1_forgetFirst_37 : decode cX1_forgetFirst 37 = .ok (.getfield 18, 3) := by decide +kernel
theorem dX1_forgetFirst_40 : decode cX1_forgetFirst 40 = .ok (.iload_n 1, 1) := by decide +kernel
theorem dX1_forgetFirst_41 : decode cX1_forgetFirst 41 = .ok (.iconst 1, 1) := by decide +kernel
theorem dX1_forgetFirst_42 : decode cX1_forgetFirst 42 = .ok (.isub, 1) := by decide +kernel
theorem dX1_forgetFirst_43 : decode cX1_forgetFirst 43 = .ok (.aload_n 0, 1) := by decide +kernel
theorem dX1_forgetFirst_44 : decode cX1_forgetFirst 44 = .ok (.getfield 18, 3) := by decide +kernel
theorem dX1_forgetFirst_47 : decode cX1_forgetFirst 47 = .ok (.iload_n 1, 1) := by decide +kernel
theorem dX1_forgetFirst_48 : decode cX1_forgetFirst 48 = .ok (.iaload, 1) := by decide +kernel
theorem dX1_forgetFirst_49 : decode cX1_forgetFirst 49 = .ok (.iastore, 1) := by decide +kernel
theorem dX1_forgetFirst_50 : decode cX1_forgetFirst 50 = .ok (.iinc 1 1, 3) := by decide +kernel
theorem dX1_forgetFirst_53 : decode cX1_forgetFirst 53 = .ok (.goto (-51), 3) := by decide +kernel
theorem dX1_forgetFirst_56 : decode cX1_forgetFirst 56 = .ok (.aload_n 0, 1) := by decide +kernel
theorem dX1_forgetFirst_57 : decode cX1_forgetFirst 57 = .ok (.bipush 13, 2) := by decide +kernel
theorem dX1_forgetFirst_59 : decode cX1_forgetFirst 59 = .ok (.putfield 21, 3) := by decide +kernel
theorem dX1_forgetFirst_62 : decode cX1_forgetFirst 62 = .ok (.return_, 1) := by decide +kernel
theorem dX2_init_0 : decode cX2_init 0 = .ok (.aload_n 0, 1) := by decide +kernel
theorem dX2_init_1 : decode cX2_init 1 = .ok (.invokespecial 3, 3) := by decide +kernel
theorem dX2_init_4 : decode cX2_init 4 = .ok (.aload_n 0, 1) := by decide +kernel
theorem dX2_init_5 : decode cX2_init 5 = .ok (.bipush 36, 2) := by decide +kernel
theorem dX2_init_7 : decode cX2_init 7 = .ok (.newarray .int, 2) := by decide +kernel
theorem dX2_init_9 : decode cX2_init 9 = .ok (.putfield 9, 3) := by decide +kernel
theorem dX2_init_12 : decode cX2_init 12 = .ok (.aload_n 0, 1) := by decide +kernel
theorem dX2_init_13 : decode cX2_init 13 = .ok (.iconst 1, 1) := by decide +kernel
theorem dX2_init_14 : decode cX2_init 14 = .ok (.putfield 15, 3) := by decide +kernel
theorem dX2_init_17 : decode cX2_init 17 = .ok (.aload_n 0, 1) := by decide +kernel
theorem dX2_init_18 : decode cX2_init 18 = .ok (.getfield 9, 3) := by decide +kernel
theorem dX2_init_21 : decode cX2_init 21 = .ok (.bipush (-9), 2) := by decide +kernel
theorem dX2_init_23 : decode cX2_init 23 = .ok (.invokestatic 19, 3) := by decide +kernel
theorem dX2_init_26 : decode cX2_init 26 = .ok (.return_, 1) := by decide +kernel
theorem dX2_has_0 : decode cX2_has 0 = .ok (.iload_n 1, 1) := by decide +kernel
theorem dX2_has_1 : decode cX2_has 1 = .ok (.ifCond .lt 15, 3) := by decide +kernel
theorem dX2_has_4 : decode cX2_has 4 = .ok (.iload_n 1, 1) := by decide +kernel
theorem dX2_has_5 : decode cX2_has 5 = .ok (.aload_n 0, 1) := by decide +kernel
theorem dX2_has_6 : decode cX2_has 6 = .ok (.getfield 15, 3) := by decide +kernel
theorem dX2_has_9 : decode cX2_has 9 = .ok (.if_icmp .ge 7, 3) := by decide +kernel
theorem dX2_has_12 : decode cX2_has 12 = .ok (.iconst 1, 1) := by decide +kernel
theorem dX2_has_13 : decode cX2_has 13 = .ok (.goto 4, 3) := by decide +kernel
theorem dX2_has_16 : decode cX2_has 16 = .ok (.iconst 0, 1) := by decide +kernel
theorem dX2_has_17 : decode cX2_has 17 = .ok (.ireturn, 1) := by decide +kernel
theorem dX2_of_0 : decode cX2_of 0 = .ok (.iload_n 1, 1) := by decide +kernel
theorem dX2_of_1 : decode cX2_of 1 = .ok (.ifCond .lt 23, 3) := by decide +kernel
theorem dX2_of_4 : decode cX2_of 4 = .ok (.iload_n 1, 1) := by decide +kernel
theorem dX2_of_5 : decode cX2_of 5 = .ok (.aload_n 0, 1) := by decide +kernel
theorem dX2_of_6 : decode cX2_of 6 = .ok (.getfield 15, 3) := by decide +kernel
theorem dX2_of_9 : decode cX2_of 9 = .ok (.if_icmp .ge 15, 3) := by decide +kernel
theorem dX2_of_12 : decode cX2_of 12 = .ok (.iload_n 2, 1) := by decide +kernel
theorem dX2_of_13 : decode cX2_of 13 = .ok (.ifCond .lt 11, 3) := by decide +kernel
theorem dX2_of_16 : decode cX2_of 16 = .ok (.iload_n 2, 1) := by decide +kernel
theorem dX2_of_17 : decode cX2_of 17 = .ok (.aload_n 0, 1) := by decide +kernel
theorem dX2_of_18 : decode cX2_of 18 = .ok (.getfield 15, 3) := by decide +kernel
theorem dX2_of_21 : decode cX2_of 21 = .ok (.if_icmp .lt 6, 3) := by decide +kernel
theorem dX2_of_24 : decode cX2_of 24 = .ok (.bipush (-9), 2) := by decide +kernel
theorem dX2_of_26 : decode cX2_of 26 = .ok (.ireturn, 1) := by decide +kernel
theorem dX2_of_27 : decode cX2_of 27 = .ok (.aload_n 0, 1) := by decide +kernel
theorem dX2_of_28 : decode cX2_of 28 = .ok (.getfield 9, 3) := by decide +kernel
theorem dX2_of_31 : decode cX2_of 31 = .ok (.iload_n 1, 1) := by decide +kernel
theorem dX2_of_32 : decode cX2_of 32 = .ok (.bipush 6, 2) := by decide +kernel
theorem dX2_of_34 : decode cX2_of 34 = .ok (.imul, 1) := by decide +kernel
theorem dX2_of_35 : decode cX2_of 35 = .ok (.iload_n 2, 1) := by decide +kernel
theorem dX2_of_36 : decode cX2_of 36 = .ok (.iadd, 1) := by decide +kernel
theorem dX2_of_37 : decode cX2_of 37 = .ok (.iaload, 1) := by decide +kernel
theorem dX2_of_38 : decode cX2_of 38 = .ok (.ireturn, 1) := by decide +kernel
theorem dX2_lay_0 : decode cX2_lay 0 = .ok (.aload_n 0, 1) := by decide +kernel
theorem dX2_lay_1 : decode cX2_lay 1 = .ok (.iload_n 1, 1) := by decide +kernel
theorem dX2_lay_2 : decode cX2_lay 2 = .ok (.invokevirtual 25, 3) := by decide +kernel
theorem dX2_lay_5 : decode cX2_lay 5 = .ok (.ifCond .eq 11, 3) := by decide +kernel
theorem dX2_lay_8 : decode cX2_lay 8 = .ok (.aload_n 0, 1) := by decide +kernel
theorem dX2_lay_9 : decode cX2_lay 9 = .ok (.iload_n 2, 1) := by decide +kernel
theorem dX2_lay_10 : decode cX2_lay 10 = .ok (.invokevirtual 25, 3) := by decide +kernel
theorem dX2_lay_13 : decode cX2_lay 13 = .ok (.ifCond .ne 5, 3) := by decide +kernel
theorem dX2_lay_16 : decode cX2_lay 16 = .ok (.iconst 0, 1) := by decide +kernel
theorem dX2_lay_17 : decode cX2_lay 17 = .ok (.ireturn, 1) := by decide +kernel
theorem dX2_lay_18 : decode cX2_lay 18 = .ok (.aload_n 0, 1) := by decide +kernel
theorem dX2_lay_19 : decode cX2_lay 19 = .ok (.getfield 9, 3) := by decide +kernel
theorem dX2_lay_22 : decode cX2_lay 22 = .ok (.iload_n 1, 1) := by decide +kernel
theorem dX2_lay_23 : decode cX2_lay 23 = .ok (.bipush 6, 2) := by decide +kernel
theorem dX2_lay_25 : decode cX2_lay 25 = .ok (.imul, 1) := by decide +kernel
theorem dX2_lay_26 : decode cX2_lay 26 = .ok (.iload_n 2, 1) := by decide +kernel
theorem dX2_lay_27 : decode cX2_lay 27 = .ok (.iadd, 1) := by decide +kernel
theorem dX2_lay_28 : decode cX2_lay 28 = .ok (.iload_n 3, 1) := by decide +kernel
theorem dX2_lay_29 : decode cX2_lay 29 = .ok (.iastore, 1) := by decide +kernel
theorem dX2_lay_30 : decode cX2_lay 30 = .ok (.iconst 1, 1) := by decide +kernel
theorem dX2_lay_31 : decode cX2_lay 31 = .ok (.ireturn, 1) := by decide +kernel
theorem dX2_leadsToAll_0 : decode cX2_leadsToAll 0 = .ok (.iconst 0, 1) := by decide +kernel
theorem dX2_leadsToAll_1 : decode cX2_leadsToAll 1 = .ok (.istore_n 2, 1) := by decide +kernel
theorem dX2_leadsToAll_2 : decode cX2_leadsToAll 2 = .ok (.iload_n 2, 1) := by decide +kernel
theorem dX2_leadsToAll_3 : decode cX2_leadsToAll 3 = .ok (.aload_n 0, 1) := by decide +kernel
theorem dX2_leadsToAll_4 : decode cX2_leadsToAll 4 = .ok (.getfield 15, 3) := by decide +kernel
theorem dX2_leadsToAll_7 : decode cX2_leadsToAll 7 = .ok (.if_icmp .ge 22, 3) := by decide +kernel
theorem dX2_leadsToAll_10 : decode cX2_leadsToAll 10 = .ok (.aload_n 0, 1) := by decide +kernel
theorem dX2_leadsToAll_11 : decode cX2_leadsToAll 11 = .ok (.iload_n 1, 1) := by decide +kernel
theorem dX2_leadsToAll_12 : decode cX2_leadsToAll 12 = .ok (.iload_n 2, 1) := by decide +kernel
theorem dX2_leadsToAll_13 : decode cX2_leadsToAll 13 = .ok (.invokevirtual 29, 3) := by decide +kernel
theorem dX2_leadsToAll_16 : decode cX2_leadsToAll 16 = .ok (.bipush (-9), 2) := by decide +kernel
theorem dX2_leadsToAll_18 : decode cX2_leadsToAll 18 = .ok (.if_icmp .ne 5, 3) := by decide +kernel
theorem dX2_leadsToAll_21 : decode cX2_leadsToAll 21 = .ok (.iconst 0, 1) := by decide +kernel
theorem dX2_leadsToAll_22 : decode cX2_leadsToAll 22 = .ok (.ireturn, 1) := by decide +kernel
theorem dX2_leadsToAll_23 : decode cX2_leadsToAll 23 = .ok (.iinc 2 1, 3) := by decide +kernel
theorem dX2_leadsToAll_26 : decode cX2_leadsToAll 26 = .ok (.goto (-24), 3) := by decide +kernel
theorem dX2_leadsToAll_29 : decode cX2_leadsToAll 29 = .ok (.iconst 1, 1) := by decide +kernel
theorem dX2_leadsToAll_30 : decode cX2_leadsToAll 30 = .ok (.ireturn, 1) := by decide +kernel
theorem dX2_waits_0 : decode cX2_waits 0 = .ok (.iconst 0, 1) := by decide +kernel
theorem dX2_waits_1 : decode cX2_waits 1 = .ok (.istore_n 1, 1) := by decide +kernel
theorem dX2_waits_2 : decode cX2_waits 2 = .ok (.iconst 0, 1) := by decide +kernel
theorem dX2_waits_3 : decode cX2_waits 3 = .ok (.istore_n 2, 1) := by decide +kernel
theorem dX2_waits_4 : decode cX2_waits 4 = .ok (.iload_n 2, 1) := by decide +kernel
theorem dX2_waits_5 : decode cX2_waits 5 = .ok (.bipush 36, 2) := by decide +kernel
theorem dX2_waits_7 : decode cX2_waits 7 = .ok (.if_icmp .ge 23, 3) := by decide +kernel
theorem dX2_waits_10 : decode cX2_waits 10 = .ok (.aload_n 0, 1) := by decide +kernel
theorem dX2_waits_11 : decode cX2_waits 11 = .ok (.getfield 9, 3) := by decide +kernel
theorem dX2_waits_14 : decode cX2_waits 14 = .ok (.iload_n 2, 1) := by decide +kernel
theorem dX2_waits_15 : decode cX2_waits 15 = .ok (.iaload, 1) := by decide +kernel
theorem dX2_waits_16 : decode cX2_waits 16 = .ok (.bipush (-9), 2) := by decide +kernel
theorem dX2_waits_18 : decode cX2_waits 18 = .ok (.if_icmp .eq 6, 3) := by decide +kernel
theorem dX2_waits_21 : decode cX2_waits 21 = .ok (.iinc 1 1, 3) := by decide +kernel
theorem dX2_waits_24 : decode cX2_waits 24 = .ok (.iinc 2 1, 3) := by decide +kernel
theorem dX2_waits_27 : decode cX2_waits 27 = .ok (.goto (-23), 3) := by decide +kernel
theorem dX2_waits_30 : decode cX2_waits 30 = .ok (.iload_n 1, 1) := by decide +kernel
theorem dX2_waits_31 : decode cX2_waits 31 = .ok (.ireturn, 1) := by decide +kernel
theorem dX2_begin_0 : decode cX2_begin 0 = .ok (.aload_n 0, 1) := by decide +kernel
theorem dX2_begin_1 : decode cX2_begin 1 = .ok (.iconst 1, 1) := by decide +kernel
theorem dX2_begin_2 : decode cX2_begin 2 = .ok (.bipush 6, 2) := by decide +kernel
theorem dX2_begin_4 : decode cX2_begin 4 = .ok (.iload_n 1, 1) := by decide +kernel
theorem dX2_begin_5 : decode cX2_begin 5 = .ok (.invokestatic 33, 3) := by decide +kernel
theorem dX2_begin_8 : decode cX2_begin 8 = .ok (.invokestatic 38, 3) := by decide +kernel
theorem dX2_begin_11 : decode cX2_begin 11 = .ok (.putfield 15, 3) := by decide +kernel
theorem dX2_begin_14 : decode cX2_begin 14 = .ok (.aload_n 0, 1) := by decide +kernel
theorem dX2_begin_15 : decode cX2_begin 15 = .ok (.getfield 9, 3) := by decide +kernel
theorem dX2_begin_18 : decode cX2_begin 18 = .ok (.bipush (-9), 2) := by decide +kernel
theorem dX2_begin_20 : decode cX2_begin 20 = .ok (.invokestatic 19, 3) := by decide +kernel
theorem dX2_begin_23 : decode cX2_begin 23 = .ok (.return_, 1) := by decide +kernel
theorem dX2_copyFrom_0 : decode cX2_copyFrom 0 = .ok (.aload_n 0, 1) := by decide +kernel
theorem dX2_copyFrom_1 : decode cX2_copyFrom 1 = .ok (.aload_n 1, 1) := by decide +kernel
theorem dX2_copyFrom_2 : decode cX2_copyFrom 2 = .ok (.getfield 15, 3) := by decide +kernel
theorem dX2_copyFrom_5 : decode cX2_copyFrom 5 = .ok (.putfield 15, 3) := by decide +kernel
theorem dX2_copyFrom_8 : decode cX2_copyFrom 8 = .ok (.aload_n 1, 1) := by decide +kernel
theorem dX2_copyFrom_9 : decode cX2_copyFrom 9 = .ok (.getfield 9, 3) := by decide +kernel
theorem dX2_copyFrom_12 : decode cX2_copyFrom 12 = .ok (.iconst 0, 1) := by decide +kernel
theorem dX2_copyFrom_13 : decode cX2_copyFrom 13 = .ok (.aload_n 0, 1) := by decide +kernel
theorem dX2_copyFrom_14 : decode cX2_copyFrom 14 = .ok (.getfield 9, 3) := by decide +kernel
theorem dX2_copyFrom_17 : decode cX2_copyFrom 17 = .ok (.iconst 0, 1) := by decide +kernel
theorem dX2_copyFrom_18 : decode cX2_copyFrom 18 = .ok (.bipush 36, 2) := by decide +kernel
theorem dX2_copyFrom_20 : decode cX2_copyFrom 20 = .ok (.invokestatic 41, 3) := by decide +kernel
theorem dX2_copyFrom_23 : decode cX2_copyFrom 23 = .ok (.return_, 1) := by decide +kernel
theorem dX3_init_0 : decode cX3_init 0 = .ok (.aload_n 0, 1) := by decide +kernel
theorem dX3_init_1 : decode cX3_init 1 = .ok (.invokespecial 3, 3) := by decide +kernel
theorem dX3_init_4 : decode cX3_init 4 = .ok (.return_, 1) := by decide +kernel
theorem dX3_read_0 : decode cX3_read 0 = .ok (.aload_n 3, 1) := by decide +kernel
theorem dX3_read_1 : decode cX3_read 1 = .ok (.iconst 1, 1) := by decide +kernel
theorem dX3_read_2 : decode cX3_read 2 = .ok (.invokevirtual 9, 3) := by decide +kernel
theorem dX3_read_5 : decode cX3_read 5 = .ok (.iconst 0, 1) := by decide +kernel
theorem dX3_read_6 : decode cX3_read 6 = .ok (.istore 4, 2) := by decide +kernel
theorem dX3_read_8 : decode cX3_read 8 = .ok (.iload 4, 2) := by decide +kernel
theorem dX3_read_10 : decode cX3_read 10 = .ok (.iload_n 2, 1) := by decide +kernel
theorem dX3_read_11 : decode cX3_read 11 = .ok (.if_icmp .ge 33, 3) := by decide +kernel
theorem dX3_read_14 : decode cX3_read 14 = .ok (.iload 4, 2) := by decide +kernel
theorem dX3_read_16 : decode cX3_read 16 = .ok (.aload_n 1, 1) := by decide +kernel
theorem dX3_read_17 : decode cX3_read 17 = .ok (.arraylength, 1) := by decide +kernel
theorem dX3_read_18 : decode cX3_read 18 = .ok (.if_icmp .ge 26, 3) := by decide +kernel
theorem dX3_read_21 : decode cX3_read 21 = .ok (.aload_n 0, 1) := by decide +kernel
theorem dX3_read_22 : decode cX3_read 22 = .ok (.iload 4, 2) := by decide +kernel
theorem dX3_read_24 : decode cX3_read 24 = .ok (.aload_n 1, 1) := by decide +kernel
theorem dX3_read_25 : decode cX3_read 25 = .ok (.iload 4, 2) := by decide +kernel
theorem dX3_read_27 : decode cX3_read 27 = .ok (.iaload, 1) := by decide +kernel
theorem dX3_read_28 : decode cX3_read 28 = .ok (.aload_n 3, 1) := by decide +kernel
theorem dX3_read_29 : decode cX3_read 29 = .ok (.invokevirtual 15, 3) := by decide +kernel
theorem dX3_read_32 : decode cX3_read 32 = .ok (.ifCond .ne 6, 3) := by decide +kernel
theorem dX3_read_35 : decode cX3_read 35 = .ok (.iload 4, 2) := by decide +kernel
theorem dX3_read_37 : decode cX3_read 37 = .ok (.ireturn, 1) := by decide +kernel
theorem dX3_read_38 : decode cX3_read 38 = .ok (.iinc 4 1, 3) := by decide +kernel
theorem dX3_read_41 : decode cX3_read 41 = .ok (.goto (-33), 3) := by decide +kernel
theorem dX3_read_44 : decode cX3_read 44 = .ok (.iload_n 2, 1) := by decide +kernel
theorem dX3_read_45 : decode cX3_read 45 = .ok (.iconst 2, 1) := by decide +kernel
theorem dX3_read_46 : decode cX3_read 46 = .ok (.if_icmp .lt 15, 3) := by decide +kernel
theorem dX3_read_49 : decode cX3_read 49 = .ok (.iload_n 2, 1) := by decide +kernel
theorem dX3_read_50 : decode cX3_read 50 = .ok (.iconst 2, 1) := by decide +kernel
theorem dX3_read_51 : decode cX3_read 51 = .ok (.isub, 1) := by decide +kernel
theorem dX3_read_52 : decode cX3_read 52 = .ok (.iconst 3, 1) := by decide +kernel
theorem dX3_read_53 : decode cX3_read 53 = .ok (.irem, 1) := by decide +kernel
theorem dX3_read_54 : decode cX3_read 54 = .ok (.ifCond .ne 7, 3) := by decide +kernel
theorem dX3_read_57 : decode cX3_read 57 = .ok (.iconst 1, 1) := by decide +kernel
theorem dX3_read_58 : decode cX3_read 58 = .ok (.goto 4, 3) := by decide +kernel
theorem dX3_read_61 : decode cX3_read 61 = .ok (.iconst 0, 1) := by decide +kernel
theorem dX3_read_62 : decode cX3_read 62 = .ok (.istore 4, 2) := by decide +kernel
theorem dX3_read_64 : decode cX3_read 64 = .ok (.iload 4, 2) := by decide +kernel
theorem dX3_read_66 : decode cX3_read 66 = .ok (.ifCond .eq 8, 3) := by decide +kernel
theorem dX3_read_69 : decode cX3_read 69 = .ok (.bipush (-9), 2) := by decide +kernel
theorem dX3_read_71 : decode cX3_read 71 = .ok (.goto 4, 3) := by decide +kernel
theorem dX3_read_74 : decode cX3_read 74 = .ok (.iload_n 2, 1) := by decide +kernel
theorem dX3_read_75 : decode cX3_read 75 = .ok (.ireturn, 1) := by decide +kernel
theorem dX3_takes_0 : decode cX3_takes 0 = .ok (.iload_n 2, 1) := by decide +kernel
theorem dX3_takes_1 : decode cX3_takes 1 = .ok (.bipush 48, 2) := by decide +kernel
theorem dX3_takes_3 : decode cX3_takes 3 = .ok (.isub, 1) := by decide +kernel
theorem dX3_takes_4 : decode cX3_takes 4 = .ok (.istore 4, 2) := by decide +kernel
theorem dX3_takes_6 : decode cX3_takes 6 = .ok (.iload_n 1, 1) := by decide +kernel
theorem dX3_takes_7 : decode cX3_takes 7 = .ok (.ifCond .ne 15, 3) := by decide +kernel
theorem dX3_takes_10 : decode cX3_takes 10 = .ok (.iload_n 2, 1) := by decide +kernel
theorem dX3_takes_11 : decode cX3_takes 11 = .ok (.bipush 78, 2) := by decide +kernel
theorem dX3_takes_13 : decode cX3_takes 13 = .ok (.if_icmp .ne 7, 3) := by decide +kernel
theorem dX3_takes_16 : decode cX3_takes 16 = .ok (.iconst 1, 1) := by decide +kernel
theorem dX3_takes_17 : decode cX3_takes 17 = .ok (.goto 4, 3) := by decide +kernel
theorem dX3_takes_20 : decode cX3_takes 20 = .ok (.iconst 0, 1) := by decide +kernel
theorem dX3_takes_21 : decode cX3_takes 21 = .ok (.ireturn, 1) := by decide +kernel
theorem dX3_takes_22 : decode cX3_takes 22 = .ok (.iload_n 1, 1) := by decide +kernel
theorem dX3_takes_23 : decode cX3_takes 23 = .ok (.iconst 1, 1) := by decide +kernel
theorem dX3_takes_24 : decode cX3_takes 24 = .ok (.if_icmp .ne 28, 3) := by decide +kernel
theorem dX3_takes_27 : decode cX3_takes 27 = .ok (.aload_n 3, 1) := by decide +kernel
theorem dX3_takes_28 : decode cX3_takes 28 = .ok (.iload 4, 2) := by decide +kernel
theorem dX3_takes_30 : decode cX3_takes 30 = .ok (.invokevirtual 9, 3) := by decide +kernel
theorem dX3_takes_33 : decode cX3_takes 33 = .ok (.iload 4, 2) := by decide +kernel
theorem dX3_takes_35 : decode cX3_takes 35 = .ok (.iconst 1, 1) := by decide +kernel
theorem dX3_takes_36 : decode cX3_takes 36 = .ok (.if_icmp .lt 14, 3) := by decide +kernel
theorem dX3_takes_39 : decode cX3_takes 39 = .ok (.iload 4, 2) := by decide +kernel
theorem dX3_takes_41 : decode cX3_takes 41 = .ok (.bipush 6, 2) := by decide +kernel
theorem dX3_takes_43 : decode cX3_takes 43 = .ok (.if_icmp .gt 7, 3) := by decide +kernel
theorem dX3_takes_46 : decode cX3_takes 46 = .ok (.iconst 1, 1) := by decide +kernel
theorem dX3_takes_47 : decode cX3_takes 47 = .ok (.goto 4, 3) := by decide +kernel
theorem dX3_takes_50 : decode cX3_takes 50 = .ok (.iconst 0, 1) := by decide +kernel
theorem dX3_takes_51 : decode cX3_takes 51 = .ok (.ireturn, 1) := by decide +kernel
theorem dX3_takes_52 : decode cX3_takes 52 = .ok (.iload_n 1, 1) := by decide +kernel
theorem dX3_takes_53 : decode cX3_takes 53 = .ok (.iconst 2, 1) := by decide +kernel
theorem dX3_takes_54 : decode cX3_takes 54 = .ok (.isub, 1) := by decide +kernel
theorem dX3_takes_55 : decode cX3_takes 55 = .ok (.iconst 3, 1) := by decide +kernel
theorem dX3_takes_56 : decode cX3_takes 56 = .ok (.irem, 1) := by decide +kernel
theorem dX3_takes_57 : decode cX3_takes 57 = .ok (.lookupswitch 107 #[(0, 27), (1, 67)], 27) := by decide +kernel
theorem dX3_takes_84 : decode cX3_takes 84 = .ok (.aload_n 0, 1) := by decide +kernel
theorem dX3_takes_85 : decode cX3_takes 85 = .ok (.iload 4, 2) := by decide +kernel
theorem dX3_takes_87 : decode cX3_takes 87 = .ok (.putfield 21, 3) := by decide +kernel
theorem dX3_takes_90 : decode cX3_takes 90 = .ok (.iload_n 1, 1) := by decide +kernel
theorem dX3_takes_91 : decode cX3_takes 91 = .ok (.bipush 38, 2) := by decide +kernel
theorem dX3_takes_93 : decode cX3_takes 93 = .ok (.if_icmp .ge 29, 3) := by decide +kernel
theorem dX3_takes_96 : decode cX3_takes 96 = .ok (.aload_n 3, 1) := by decide +kernel
theorem dX3_takes_97 : decode cX3_takes 97 = .ok (.aload_n 0, 1) := by decide +kernel
theorem dX3_takes_98 : decode cX3_takes 98 = .ok (.getfield 21, 3) := by decide +kernel
theorem dX3_takes_101 : decode cX3_takes 101 = .ok (.invokevirtual 25, 3) := by decide +kernel
theorem dX3_takes_104 : decode cX3_takes 104 = .ok (.ifCond .eq 18, 3) := by decide +kernel
theorem dX3_takes_107 : decode cX3_takes 107 = .ok (.aload_n 3, 1) := by decide +kernel
theorem dX3_takes_108 : decode cX3_takes 108 = .ok (.aload_n 0, 1) := by decide +kernel
theorem dX3_takes_109 : decode cX3_takes 109 = .ok (.getfield 21, 3) := by decide +kernel
theorem dX3_takes_112 : decode cX3_takes 112 = .ok (.invokevirtual 29, 3) := by decide +kernel
theorem dX3_takes_115 : decode cX3_takes 115 = .ok (.ifCond .ne 7, 3) := by decide +kernel
theorem dX3_takes_118 : decode cX3_takes 118 = .ok (.iconst 1, 1) := by decide +kernel
theorem dX3_takes_119 : decode cX3_takes 119 = .ok (.goto 4, 3) := by decide +kernel
theorem dX3_takes_122 : decode cX3_takes 122 = .ok (.iconst 0, 1) := by decide +kernel
theorem dX3_takes_123 : decode cX3_takes 123 = .ok (.ireturn, 1) := by decide +kernel
theorem dX3_takes_124 : decode cX3_takes 124 = .ok (.aload_n 0, 1) := by decide +kernel
theorem dX3_takes_125 : decode cX3_takes 125 = .ok (.iload 4, 2) := by decide +kernel
theorem dX3_takes_127 : decode cX3_takes 127 = .ok (.putfield 32, 3) := by decide +kernel
theorem dX3_takes_130 : decode cX3_takes 130 = .ok (.aload_n 3, 1) := by decide +kernel
theorem dX3_takes_131 : decode cX3_takes 131 = .ok (.aload_n 0, 1) := by decide +kernel
theorem dX3_takes_132 : decode cX3_takes 132 = .ok (.getfield 32, 3) := by decide +kernel
theorem dX3_takes_135 : decode cX3_takes 135 = .ok (.invokevirtual 25, 3) := by decide +kernel
theorem dX3_takes_138 : decode cX3_takes 138 = .ok (.ifCond .eq 24, 3) := by decide +kernel
theorem dX3_takes_141 : decode cX3_takes 141 = .ok (.aload_n 3, 1) := by decide +kernel
theorem dX3_takes_142 : decode cX3_takes 142 = .ok (.aload_n 0, 1) := by decide +kernel
theorem dX3_takes_143 : decode cX3_takes 143 = .ok (.getfield 21, 3) := by decide +kernel
theorem dX3_takes_146 : decode cX3_takes 146 = .ok (.aload_n 0, 1) := by decide +kernel
theorem dX3_takes_147 : decode cX3_takes 147 = .ok (.getfield 32, 3) := by decide +kernel
theorem dX3_takes_150 : decode cX3_takes 150 = .ok (.invokevirtual 35, 3) := by decide +kernel
theorem dX3_takes_153 : decode cX3_takes 153 = .ok (.bipush (-9), 2) := by decide +kernel
theorem dX3_takes_155 : decode cX3_takes 155 = .ok (.if_icmp .ne 7, 3) := by decide +kernel
theorem dX3_takes_158 : decode cX3_takes 158 = .ok (.iconst 1, 1) := by decide +kernel
theorem dX3_takes_159 : decode cX3_takes 159 = .ok (.goto 4, 3) := by decide +kernel
theorem dX3_takes_162 : decode cX3_takes 162 = .ok (.iconst 0, 1) := by decide +kernel
theorem dX3_takes_163 : decode cX3_takes 163 = .ok (.ireturn, 1) := by decide +kernel
theorem dX3_takes_164 : decode cX3_takes 164 = .ok (.iload 4, 2) := by decide +kernel
theorem dX3_takes_166 : decode cX3_takes 166 = .ok (.ifCond .lt 31, 3) := by decide +kernel
theorem dX3_takes_169 : decode cX3_takes 169 = .ok (.iload 4, 2) := by decide +kernel
theorem dX3_takes_171 : decode cX3_takes 171 = .ok (.bipush 9, 2) := by decide +kernel
theorem dX3_takes_173 : decode cX3_takes 173 = .ok (.if_icmp .gt 24, 3) := by decide +kernel
theorem dX3_takes_176 : decode cX3_takes 176 = .ok (.aload_n 3, 1) := by decide +kernel
theorem dX3_takes_177 : decode cX3_takes 177 = .ok (.aload_n 0, 1) := by decide +kernel
theorem dX3_takes_178 : decode cX3_takes 178 = .ok (.getfield 21, 3) := by decide +kernel
theorem dX3_takes_181 : decode cX3_takes 181 = .ok (.aload_n 0, 1) := by decide +kernel
theorem dX3_takes_182 : decode cX3_takes 182 = .ok (.getfield 32, 3) := by decide +kernel
theorem dX3_takes_185 : decode cX3_takes 185 = .ok (.iload 4, 2) := by decide +kernel
theorem dX3_takes_187 : decode cX3_takes 187 = .ok (.invokevirtual 39, 3) := by decide +kernel
theorem dX3_takes_190 : decode cX3_takes 190 = .ok (.ifCond .eq 7, 3) := by decide +kernel
theorem dX3_takes_193 : decode cX3_takes 193 = .ok (.iconst 1, 1) := by decide +kernel
theorem dX3_takes_194 : decode cX3_takes 194 = .ok (.goto 4, 3) := by decide +kernel
theorem dX3_takes_197 : decode cX3_takes 197 = .ok (.iconst 0, 1) := by decide +kernel
theorem dX3_takes_198 : decode cX3_takes 198 = .ok (.ireturn, 1) := by decide +kernel
theorem dX4_init_0 : decode cX4_init 0 = .ok (.aload_n 0, 1) := by decide +kernel
theorem dX4_init_1 : decode cX4_init 1 = .ok (.invokespecial 3, 3) := by decide +kernel
theorem dX4_init_4 : decode cX4_init 4 = .ok (.aload_n 0, 1) := by decide +kernel
theorem dX4_init_5 : decode cX4_init 5 = .ok (.sipush 384, 3) := by decide +kernel
theorem dX4_init_8 : decode cX4_init 8 = .ok (.newarray .int, 2) := by decide +kernel
theorem dX4_init_10 : decode cX4_init 10 = .ok (.putfield 9, 3) := by decide +kernel
theorem dX4_init_13 : decode cX4_init 13 = .ok (.aload_n 0, 1) := by decide +kernel
theorem dX4_init_14 : decode cX4_init 14 = .ok (.sipush 384, 3) := by decide +kernel
theorem dX4_init_17 : decode cX4_init 17 = .ok (.newarray .int, 2) := by decide +kernel
theorem dX4_init_19 : decode cX4_init 19 = .ok (.putfield 15, 3) := by decide +kernel
theorem dX4_init_22 : decode cX4_init 22 = .ok (.aload_n 0, 1) := by decide +kernel
theorem dX4_init_23 : decode cX4_init 23 = .ok (.bipush 64, 2) := by decide +kernel
theorem dX4_init_25 : decode cX4_init 25 = .ok (.newarray .int, 2) := by decide +kernel
theorem dX4_init_27 : decode cX4_init 27 = .ok (.putfield 18, 3) := by decide +kernel
theorem dX4_init_30 : decode cX4_init 30 = .ok (.return_, 1) := by decide +kernel
theorem dX4_fill_0 : decode cX4_fill 0 = .ok (.aload_n 0, 1) := by decide +kernel
theorem dX4_fill_1 : decode cX4_fill 1 = .ok (.getfield 9, 3) := by decide +kernel
theorem dX4_fill_4 : decode cX4_fill 4 = .ok (.iconst 0, 1) := by decide +kernel
theorem dX4_fill_5 : decode cX4_fill 5 = .ok (.invokestatic 21, 3) := by decide +kernel
theorem dX4_fill_8 : decode cX4_fill 8 = .ok (.aload_n 0, 1) := by decide +kernel
theorem dX4_fill_9 : decode cX4_fill 9 = .ok (.getfield 15, 3) := by decide +kernel
theorem dX4_fill_12 : decode cX4_fill 12 = .ok (.iconst 0, 1) := by decide +kernel
theorem dX4_fill_13 : decode cX4_fill 13 = .ok (.invokestatic 21, 3) := by decide +kernel
theorem dX4_fill_16 : decode cX4_fill 16 = .ok (.aload_n 0, 1) := by decide +kernel
theorem dX4_fill_17 : decode cX4_fill 17 = .ok (.getfield 18, 3) := by decide +kernel
theorem dX4_fill_20 : decode cX4_fill 20 = .ok (.iconst 0, 1) := by decide +kernel
theorem dX4_fill_21 : decode cX4_fill 21 = .ok (.invokestatic 21, 3) := by decide +kernel
theorem dX4_fill_24 : decode cX4_fill 24 = .ok (.aload_n 0, 1) := by decide +kernel
theorem dX4_fill_25 : decode cX4_fill 25 = .ok (.iconst 0, 1) := by decide +kernel
theorem dX4_fill_26 : decode cX4_fill 26 = .ok (.putfield 27, 3) := by decide +kernel
theorem dX4_fill_29 : decode cX4_fill 29 = .ok (.iconst 0, 1) := by decide +kernel
theorem dX4_fill_30 : decode cX4_fill 30 = .ok (.istore_n 2, 1) := by decide +kernel
theorem dX4_fill_31 : decode cX4_fill 31 = .ok (.iload_n 2, 1) := by decide +kernel
theorem dX4_fill_32 : decode cX4_fill 32 = .ok (.aload_n 1, 1) := by decide +kernel
theorem dX4_fill_33 : decode cX4_fill 33 = .ok (.getfield 31, 3) := by decide +kernel
theorem dX4_fill_36 : decode cX4_fill 36 = .ok (.if_icmp .ge 23, 3) := by decide +kernel
theorem dX4_fill_39 : decode cX4_fill 39 = .ok (.aload_n 0, 1) := by decide +kernel
theorem dX4_fill_40 : decode cX4_fill 40 = .ok (.getfield 9, 3) := by decide +kernel
theorem dX4_fill_43 : decode cX4_fill 43 = .ok (.iconst 1, 1) := by decide +kernel
theorem dX4_fill_44 : decode cX4_fill 44 = .ok (.iload_n 2, 1) := by decide +kernel
theorem dX4_fill_45 : decode cX4_fill 45 = .ok (.ishl, 1) := by decide +kernel
theorem dX4_fill_46 : decode cX4_fill 46 = .ok (.bipush 6, 2) := by decide +kernel
theorem dX4_fill_48 : decode cX4_fill 48 = .ok (.imul, 1) := by decide +kernel
theorem dX4_fill_49 : decode cX4_fill 49 = .ok (.iload_n 2, 1) := by decide +kernel
theorem dX4_fill_50 : decode cX4_fill 50 = .ok (.iadd, 1) := by decide +kernel
theorem dX4_fill_51 : decode cX4_fill 51 = .ok (.iconst 1, 1) := by decide +kernel
theorem dX4_fill_52 : decode cX4_fill 52 = .ok (.iastore, 1) := by decide +kernel
theorem dX4_fill_53 : decode cX4_fill 53 = .ok (.iinc 2 1, 3) := by decide +kernel
theorem dX4_fill_56 : decode cX4_fill 56 = .ok (.goto (-25), 3) := by decide +kernel
theorem dX4_fill_59 : decode cX4_fill 59 = .ok (.iconst 1, 1) := by decide +kernel
theorem dX4_fill_60 : decode cX4_fill 60 = .ok (.istore_n 2, 1) := by decide +kernel
theorem dX4_fill_61 : decode cX4_fill 61 = .ok (.iload_n 2, 1) := by decide +kernel
theorem dX4_fill_62 : decode cX4_fill 62 = .ok (.iconst 1, 1) := by decide +kernel
theorem dX4_fill_63 : decode cX4_fill 63 = .ok (.aload_n 1, 1) := by decide +kernel
theorem dX4_fill_64 : decode cX4_fill 64 = .ok (.getfield 31, 3) := by decide +kernel
theorem dX4_fill_67 : decode cX4_fill 67 = .ok (.ishl, 1) := by decide +kernel
theorem dX4_fill_68 : decode cX4_fill 68 = .ok (.if_icmp .ge 32, 3) := by decide +kernel
theorem dX4_fill_71 : decode cX4_fill 71 = .ok (.iconst 0, 1) := by decide +kernel
theorem dX4_fill_72 : decode cX4_fill 72 = .ok (.istore_n 3, 1) := by decide +kernel
theorem dX4_fill_73 : decode cX4_fill 73 = .ok (.iload_n 3, 1) := by decide +kernel
theorem dX4_fill_74 : decode cX4_fill 74 = .ok (.aload_n 1, 1) := by decide +kernel
theorem dX4_fill_75 : decode cX4_fill 75 = .ok (.getfield 31, 3) := by decide +kernel
theorem dX4_fill_78 : decode cX4_fill 78 = .ok (.if_icmp .ge 16, 3) := by decide +kernel
theorem dX4_fill_81 : decode cX4_fill 81 = .ok (.aload_n 0, 1) := by decide +kernel
theorem dX4_fill_82 : decode cX4_fill 82 = .ok (.aload_n 1, 1) := by decide +kernel
theorem dX4_fill_83 : decode cX4_fill 83 = .ok (.iload_n 2, 1) := by decide +kernel
theorem dX4_fill_84 : decode cX4_fill 84 = .ok (.iload_n 3, 1) := by decide +kernel
theorem dX4_fill_85 : decode cX4_fill 85 = .ok (.invokevirtual 36, 3) := by decide +kernel
theorem dX4_fill_88 : decode cX4_fill 88 = .ok (.iinc 3 1, 3) := by decide +kernel
theorem dX4_fill_91 : decode cX4_fill 91 = .ok (.goto (-18), 3) := by decide +kernel
theorem dX4_fill_94 : decode cX4_fill 94 = .ok (.iinc 2 1, 3) := by decide +kernel
theorem dX4_fill_97 : decode cX4_fill 97 = .ok (.goto (-36), 3) := by decide +kernel
theorem dX4_fill_100 : decode cX4_fill 100 = .ok (.aload_n 0, 1) := by decide +kernel
theorem dX4_fill_101 : decode cX4_fill 101 = .ok (.aload_n 1, 1) := by decide +kernel
theorem dX4_fill_102 : decode cX4_fill 102 = .ok (.getfield 31, 3) := by decide +kernel
theorem dX4_fill_105 : decode cX4_fill 105 = .ok (.invokevirtual 40, 3) := by decide +kernel
theorem dX4_fill_108 : decode cX4_fill 108 = .ok (.return_, 1) := by decide +kernel
theorem dX4_lowestOf_0 : decode cX4_lowestOf 0 = .ok (.iconst 0, 1) := by decide +kernel
theorem dX4_lowestOf_1 : decode cX4_lowestOf 1 = .ok (.istore_n 1, 1) := by decide +kernel
theorem dX4_lowestOf_2 : decode cX4_lowestOf 2 = .ok (.iload_n 1, 1) := by decide +kernel
theorem dX4_lowestOf_3 : decode cX4_lowestOf 3 = .ok (.iconst 5, 1) := by decide +kernel
theorem dX4_lowestOf_4 : decode cX4_lowestOf 4 = .ok (.if_icmp .ge 17, 3) := by decide +kernel
theorem dX4_lowestOf_7 : decode cX4_lowestOf 7 = .ok (.iload_n 0, 1) := by decide +kernel
theorem dX4_lowestOf_8 : decode cX4_lowestOf 8 = .ok (.iload_n 1, 1) := by decide +kernel
theorem dX4_lowestOf_9 : decode cX4_lowestOf 9 = .ok (.ishr, 1) := by decide +kernel
theorem dX4_lowestOf_10 : decode cX4_lowestOf 10 = .ok (.iconst 1, 1) := by decide +kernel
theorem dX4_lowestOf_11 : decode cX4_lowestOf 11 = .ok (.iand, 1) := by decide +kernel
theorem dX4_lowestOf_12 : decode cX4_lowestOf 12 = .ok (.ifCond .ne 9, 3) := by decide +kernel
theorem dX4_lowestOf_15 : decode cX4_lowestOf 15 = .ok (.iinc 1 1, 3) := by decide +kernel
theorem dX4_lowestOf_18 : decode cX4_lowestOf 18 = .ok (.goto (-16), 3) := by decide +kernel
theorem dX4_lowestOf_21 : decode cX4_lowestOf 21 = .ok (.iload_n 1, 1) := by decide +kernel
theorem dX4_lowestOf_22 : decode cX4_lowestOf 22 = .ok (.ireturn, 1) := by decide +kernel
theorem dX4_goOn_0 : decode cX4_goOn 0 = .ok (.aload_n 0, 1) := by decide +kernel
theorem dX4_goOn_1 : decode cX4_goOn 1 = .ok (.getfield 9, 3) := by decide +kernel
theorem dX4_goOn_4 : decode cX4_goOn 4 = .ok (.iload_n 2, 1) := by decide +kernel
theorem dX4_goOn_5 : decode cX4_goOn 5 = .ok (.bipush 6, 2) := by decide +kernel
theorem dX4_goOn_7 : decode cX4_goOn 7 = .ok (.imul, 1) := by decide +kernel
theorem dX4_goOn_8 : decode cX4_goOn 8 = .ok (.iload_n 3, 1) := by decide +kernel
theorem dX4_goOn_9 : decode cX4_goOn 9 = .ok (.iadd, 1) := by decide +kernel
theorem dX4_goOn_10 : decode cX4_goOn 10 = .ok (.iaload, 1) := by decide +kernel
theorem dX4_goOn_11 : decode cX4_goOn 11 = .ok (.istore 4, 2) := by decide +kernel
theorem dX4_goOn_13 : decode cX4_goOn 13 = .ok (.aload_n 0, 1) := by decide +kernel
theorem dX4_goOn_14 : decode cX4_goOn 14 = .ok (.getfield 15, 3) := by decide +kernel
theorem dX4_goOn_17 : decode cX4_goOn 17 = .ok (.iload_n 2, 1) := by decide +kernel
theorem dX4_goOn_18 : decode cX4_goOn 18 = .ok (.bipush 6, 2) := by decide +kernel
theorem dX4_goOn_20 : decode cX4_goOn 20 = .ok (.imul, 1) := by decide +kernel
theorem dX4_goOn_21 : decode cX4_goOn 21 = .ok (.iload_n 3, 1) := by decide +kernel
theorem dX4_goOn_22 : decode cX4_goOn 22 = .ok (.iadd, 1) := by decide +kernel
theorem dX4_goOn_23 : decode cX4_goOn 23 = .ok (.iaload, 1) := by decide +kernel
theorem dX4_goOn_24 : decode cX4_goOn 24 = .ok (.istore 5, 2) := by decide +kernel
theorem dX4_goOn_26 : decode cX4_goOn 26 = .ok (.iload 4, 2) := by decide +kernel
theorem dX4_goOn_28 : decode cX4_goOn 28 = .ok (.ifCond .ne 4, 3) := by decide +kernel
theorem dX4_goOn_31 : decode cX4_goOn 31 = .ok (.return_, 1) := by decide +kernel
theorem dX4_goOn_32 : decode cX4_goOn 32 = .ok (.iload_n 2, 1) := by decide +kernel
theorem dX4_goOn_33 : decode cX4_goOn 33 = .ok (.invokestatic 44, 3) := by decide +kernel
theorem dX4_goOn_36 : decode cX4_goOn 36 = .ok (.istore 6, 2) := by decide +kernel
theorem dX4_goOn_38 : decode cX4_goOn 38 = .ok (.aload_n 1, 1) := by decide +kernel
theorem dX4_goOn_39 : decode cX4_goOn 39 = .ok (.iload_n 3, 1) := by decide +kernel
theorem dX4_goOn_40 : decode cX4_goOn 40 = .ok (.iload 6, 2) := by decide +kernel
theorem dX4_goOn_42 : decode cX4_goOn 42 = .ok (.invokevirtual 48, 3) := by decide +kernel
theorem dX4_goOn_45 : decode cX4_goOn 45 = .ok (.istore 7, 2) := by decide +kernel
theorem dX4_goOn_47 : decode cX4_goOn 47 = .ok (.iload 7, 2) := by decide +kernel
theorem dX4_goOn_49 : decode cX4_goOn 49 = .ok (.bipush (-9), 2) := by decide +kernel
theorem dX4_goOn_51 : decode cX4_goOn 51 = .ok (.if_icmp .eq 43, 3) := by decide +kernel
theorem dX4_goOn_54 : decode cX4_goOn 54 = .ok (.aload_n 0, 1) := by decide +kernel
theorem dX4_goOn_55 : decode cX4_goOn 55 = .ok (.dup, 1) := by decide +kernel
theorem dX4_goOn_56 : decode cX4_goOn 56 = .ok (.getfield 27, 3) := by decide +kernel
theorem dX4_goOn_59 : decode cX4_goOn 59 = .ok (.iload 4, 2) := by decide +kernel
theorem dX4_goOn_61 : decode cX4_goOn 61 = .ok (.iadd, 1) := by decide +kernel
theorem dX4_goOn_62 : decode cX4_goOn 62 = .ok (.putfield 27, 3) := by decide +kernel
theorem dX4_goOn_65 : decode cX4_goOn 65 = .ok (.aload_n 0, 1) := by decide +kernel
theorem dX4_goOn_66 : decode cX4_goOn 66 = .ok (.getfield 18, 3) := by decide +kernel
theorem dX4_goOn_69 : decode cX4_goOn 69 = .ok (.iload_n 2, 1) := by decide +kernel
theorem dX4_goOn_70 : decode cX4_goOn 70 = .ok (.aload_n 0, 1) := by decide +kernel
theorem dX4_goOn_71 : decode cX4_goOn 71 = .ok (.getfield 18, 3) := by decide +kernel
theorem dX4_goOn_74 : decode cX4_goOn 74 = .ok (.iload_n 2, 1) := by decide +kernel
theorem dX4_goOn_75 : decode cX4_goOn 75 = .ok (.iaload, 1) := by decide +kernel
theorem dX4_goOn_76 : decode cX4_goOn 76 = .ok (.iload 5, 2) := by decide +kernel
theorem dX4_goOn_78 : decode cX4_goOn 78 = .ok (.iload 7, 2) := by decide +kernel
theorem dX4_goOn_80 : decode cX4_goOn 80 = .ok (.iadd, 1) := by decide +kernel
theorem dX4_goOn_81 : decode cX4_goOn 81 = .ok (.getstatic 52, 3) := by decide +kernel
theorem dX4_goOn_84 : decode cX4_goOn 84 = .ok (.iload_n 2, 1) := by decide +kernel
theorem dX4_goOn_85 : decode cX4_goOn 85 = .ok (.invokestatic 55, 3) := by decide +kernel
theorem dX4_goOn_88 : decode cX4_goOn 88 = .ok (.iaload, 1) := by decide +kernel
theorem dX4_goOn_89 : decode cX4_goOn 89 = .ok (.imul, 1) := by decide +kernel
theorem dX4_goOn_90 : decode cX4_goOn 90 = .ok (.invokestatic 60, 3) := by decide +kernel
theorem dX4_goOn_93 : decode cX4_goOn 93 = .ok (.iastore, 1) := by decide +kernel
theorem dX4_goOn_94 : decode cX4_goOn 94 = .ok (.iload 6, 2) := by decide +kernel
theorem dX4_goOn_96 : decode cX4_goOn 96 = .ok (.iconst 1, 1) := by decide +kernel
theorem dX4_goOn_97 : decode cX4_goOn 97 = .ok (.iadd, 1) := by decide +kernel
theorem dX4_goOn_98 : decode cX4_goOn 98 = .ok (.istore 8, 2) := by decide +kernel
theorem dX4_goOn_100 : decode cX4_goOn 100 = .ok (.iload 8, 2) := by decide +kernel
theorem dX4_goOn_102 : decode cX4_goOn 102 = .ok (.aload_n 1, 1) := by decide +kernel
theorem dX4_goOn_103 : decode cX4_goOn 103 = .ok (.getfield 31, 3) := by decide +kernel
theorem dX4_goOn_106 : decode cX4_goOn 106 = .ok (.if_icmp .ge 82, 3) := by decide +kernel
theorem dX4_goOn_109 : decode cX4_goOn 109 = .ok (.aload_n 1, 1) := by decide +kernel
theorem dX4_goOn_110 : decode cX4_goOn 110 = .ok (.iload_n 3, 1) := by decide +kernel
theorem dX4_goOn_111 : decode cX4_goOn 111 = .ok (.iload 8, 2) := by decide +kernel
theorem dX4_goOn_113 : decode cX4_goOn 113 = .ok (.invokevirtual 48, 3) := by decide +kernel
theorem dX4_goOn_116 : decode cX4_goOn 116 = .ok (.istore 9, 2) := by decide +kernel
theorem dX4_goOn_118 : decode cX4_goOn 118 = .ok (.iload 9, 2) := by decide +kernel
theorem dX4_goOn_120 : decode cX4_goOn 120 = .ok (.bipush (-9), 2) := by decide +kernel
theorem dX4_goOn_122 : decode cX4_goOn 122 = .ok (.if_icmp .eq 60, 3) := by decide +kernel
theorem dX4_goOn_125 : decode cX4_goOn 125 = .ok (.iload_n 2, 1) := by decide +kernel
theorem dX4_goOn_126 : decode cX4_goOn 126 = .ok (.iload 8, 2) := by decide +kernel
theorem dX4_goOn_128 : decode cX4_goOn 128 = .ok (.ishr, 1) := by decide +kernel
theorem dX4_goOn_129 : decode cX4_goOn 129 = .ok (.iconst 1, 1) := by decide +kernel
theorem dX4_goOn_130 : decode cX4_goOn 130 = .ok (.iand, 1) := by decide +kernel
theorem dX4_goOn_131 : decode cX4_goOn 131 = .ok (.ifCond .ne 51, 3) := by decide +kernel
theorem dX4_goOn_134 : decode cX4_goOn 134 = .ok (.iload_n 2, 1) := by decide +kernel
theorem dX4_goOn_135 : decode cX4_goOn 135 = .ok (.iconst 1, 1) := by decide +kernel
theorem dX4_goOn_136 : decode cX4_goOn 136 = .ok (.iload 8, 2) := by decide +kernel
theorem dX4_goOn_138 : decode cX4_goOn 138 = .ok (.ishl, 1) := by decide +kernel
theorem dX4_goOn_139 : decode cX4_goOn 139 = .ok (.ior, 1) := by decide +kernel
theorem dX4_goOn_140 : decode cX4_goOn 140 = .ok (.bipush 6, 2) := by decide +kernel
theorem dX4_goOn_142 : decode cX4_goOn 142 = .ok (.imul, 1) := by decide +kernel
theorem dX4_goOn_143 : decode cX4_goOn 143 = .ok (.iload 8, 2) := by decide +kernel
theorem dX4_goOn_145 : decode cX4_goOn 145 = .ok (.iadd, 1) := by decide +kernel
theorem dX4_goOn_146 : decode cX4_goOn 146 = .ok (.istore 10, 2) := by decide +kernel
theorem dX4_goOn_148 : decode cX4_goOn 148 = .ok (.aload_n 0, 1) := by decide +kernel
theorem dX4_goOn_149 : decode cX4_goOn 149 = .ok (.getfield 9, 3) := by decide +kernel
theorem dX4_goOn_152 : decode cX4_goOn 152 = .ok (.iload 10, 2) := by decide +kernel
theorem dX4_goOn_154 : decode cX4_goOn 154 = .ok (.dup2, 1) := by decide +kernel
theorem dX4_goOn_155 : decode cX4_goOn 155 = .ok (.iaload, 1) := by decide +kernel
theorem dX4_goOn_156 : decode cX4_goOn 156 = .ok (.iload 4, 2) := by decide +kernel
theorem dX4_goOn_158 : decode cX4_goOn 158 = .ok (.iadd, 1) := by decide +kernel
theorem dX4_goOn_159 : decode cX4_goOn 159 = .ok (.iastore, 1) := by decide +kernel
theorem dX4_goOn_160 : decode cX4_goOn 160 = .ok (.aload_n 0, 1) := by decide +kernel
theorem dX4_goOn_161 : decode cX4_goOn 161 = .ok (.getfield 15, 3) := by decide +kernel
theorem dX4_goOn_164 : decode cX4_goOn 164 = .ok (.iload 10, 2) := by decide +kernel
theorem dX4_goOn_166 : decode cX4_goOn 166 = .ok (.aload_n 0, 1) := by decide +kernel
theorem dX4_goOn_167 : decode cX4_goOn 167 = .ok (.getfield 15, 3) := by decide +kernel
theorem dX4_goOn_170 : decode cX4_goOn 170 = .ok (.iload 10, 2) := by decide +kernel
theorem dX4_goOn_172 : decode cX4_goOn 172 = .ok (.iaload, 1) := by decide +kernel
theorem dX4_goOn_173 : decode cX4_goOn 173 = .ok (.iload 5, 2) := by decide +kernel
theorem dX4_goOn_175 : decode cX4_goOn 175 = .ok (.iload 9, 2) := by decide +kernel
theorem dX4_goOn_177 : decode cX4_goOn 177 = .ok (.iadd, 1) := by decide +kernel
theorem dX4_goOn_178 : decode cX4_goOn 178 = .ok (.invokestatic 60, 3) := by decide +kernel
theorem dX4_goOn_181 : decode cX4_goOn 181 = .ok (.iastore, 1) := by decide +kernel
theorem dX4_goOn_182 : decode cX4_goOn 182 = .ok (.iinc 8 1, 3) := by decide +kernel
theorem dX4_goOn_185 : decode cX4_goOn 185 = .ok (.goto (-85), 3) := by decide +kernel
theorem dX4_goOn_188 : decode cX4_goOn 188 = .ok (.return_, 1) := by decide +kernel
theorem dX4_takeWithin_0 : decode cX4_takeWithin 0 = .ok (.iconst 1, 1) := by decide +kernel
theorem dX4_takeWithin_1 : decode cX4_takeWithin 1 = .ok (.istore_n 2, 1) := by decide +kernel
theorem dX4_takeWithin_2 : decode cX4_takeWithin 2 = .ok (.iload_n 2, 1) := by decide +kernel
theorem dX4_takeWithin_3 : decode cX4_takeWithin 3 = .ok (.iconst 1, 1) := by decide +kernel
theorem dX4_takeWithin_4 : decode cX4_takeWithin 4 = .ok (.iload_n 1, 1) := by decide +kernel
theorem dX4_takeWithin_5 : decode cX4_takeWithin 5 = .ok (.ishl, 1) := by decide +kernel
theorem dX4_takeWithin_6 : decode cX4_takeWithin 6 = .ok (.if_icmp .ge 49, 3) := by decide +kernel
theorem dX4_takeWithin_9 : decode cX4_takeWithin 9 = .ok (.iconst 0, 1) := by decide +kernel
theorem dX4_takeWithin_10 : decode cX4_takeWithin 10 = .ok (.istore_n 3, 1) := by decide +kernel
theorem dX4_takeWithin_11 : decode cX4_takeWithin 11 = .ok (.iload_n 3, 1) := by decide +kernel
theorem dX4_takeWithin_12 : decode cX4_takeWithin 12 = .ok (.iload_n 1, 1) := by decide +kernel
theorem dX4_takeWithin_13 : decode cX4_takeWithin 13 = .ok (.if_icmp .ge 36, 3) := by decide +kernel
theorem dX4_takeWithin_16 : decode cX4_takeWithin 16 = .ok (.aload_n 0, 1) := by decide +kernel
theorem dX4_takeWithin_17 : decode cX4_takeWithin 17 = .ok (.getfield 18, 3) := by decide +kernel
theorem dX4_takeWithin_20 : decode cX4_takeWithin 20 = .ok (.iload_n 2, 1) := by decide +kernel
theorem dX4_takeWithin_21 : decode cX4_takeWithin 21 = .ok (.aload_n 0, 1) := by decide +kernel
theorem dX4_takeWithin_22 : decode cX4_takeWithin 22 = .ok (.getfield 18, 3) := by decide +kernel
theorem dX4_takeWithin_25 : decode cX4_takeWithin 25 = .ok (.iload_n 2, 1) := by decide +kernel
theorem dX4_takeWithin_26 : decode cX4_takeWithin 26 = .ok (.iaload, 1) := by decide +kernel
theorem dX4_takeWithin_27 : decode cX4_takeWithin 27 = .ok (.aload_n 0, 1) := by decide +kernel
theorem dX4_takeWithin_28 : decode cX4_takeWithin 28 = .ok (.getfield 18, 3) := by decide +kernel
theorem dX4_takeWithin_31 : decode cX4_takeWithin 31 = .ok (.iload_n 2, 1) := by decide +kernel
theorem dX4_takeWithin_32 : decode cX4_takeWithin 32 = .ok (.iconst 1, 1) := by decide +kernel
theorem dX4_takeWithin_33 : decode cX4_takeWithin 33 = .ok (.iload_n 3, 1) := by decide +kernel
theorem dX4_takeWithin_34 : decode cX4_takeWithin 34 = .ok (.ishl, 1) := by decide +kernel
theorem dX4_takeWithin_35 : decode cX4_takeWithin 35 = .ok (.iconst (-1), 1) := by decide +kernel
theorem dX4_takeWithin_36 : decode cX4_takeWithin 36 = .ok (.ixor, 1) := by decide +kernel
theorem dX4_takeWithin_37 : decode cX4_takeWithin 37 = .ok (.iand, 1) := by decide +kernel
theorem dX4_takeWithin_38 : decode cX4_takeWithin 38 = .ok (.iaload, 1) := by decide +kernel
theorem dX4_takeWithin_39 : decode cX4_takeWithin 39 = .ok (.invokestatic 60, 3) := by decide +kernel
theorem dX4_takeWithin_42 : decode cX4_takeWithin 42 = .ok (.iastore, 1) := by decide +kernel
theorem dX4_takeWithin_43 : decode cX4_takeWithin 43 = .ok (.iinc 3 1, 3) := by decide +kernel
theorem dX4_takeWithin_46 : decode cX4_takeWithin 46 = .ok (.goto (-35), 3) := by decide +kernel
theorem dX4_takeWithin_49 : decode cX4_takeWithin 49 = .ok (.iinc 2 1, 3) := by decide +kernel
theorem dX4_takeWithin_52 : decode cX4_takeWithin 52 = .ok (.goto (-50), 3) := by decide +kernel
theorem dX4_takeWithin_55 : decode cX4_takeWithin 55 = .ok (.return_, 1) := by decide +kernel
theorem dX4_added_0 : decode cX4_added 0 = .ok (.iconst 0, 1) := by decide +kernel
theorem dX4_added_1 : decode cX4_added 1 = .ok (.istore_n 3, 1) := by decide +kernel
theorem dX4_added_2 : decode cX4_added 2 = .ok (.iconst 0, 1) := by decide +kernel
theorem dX4_added_3 : decode cX4_added 3 = .ok (.istore 4, 2) := by decide +kernel
theorem dX4_added_5 : decode cX4_added 5 = .ok (.iload 4, 2) := by decide +kernel
theorem dX4_added_7 : decode cX4_added 7 = .ok (.iconst 1, 1) := by decide +kernel
theorem dX4_added_8 : decode cX4_added 8 = .ok (.iload_n 2, 1) := by decide +kernel
theorem dX4_added_9 : decode cX4_added 9 = .ok (.ishl, 1) := by decide +kernel
theorem dX4_added_10 : decode cX4_added 10 = .ok (.if_icmp .ge 69, 3) := by decide +kernel
theorem dX4_added_13 : decode cX4_added 13 = .ok (.iload 4, 2) := by decide +kernel
theorem dX4_added_15 : decode cX4_added 15 = .ok (.iload_n 1, 1) := by decide +kernel
theorem dX4_added_16 : decode cX4_added 16 = .ok (.ishr, 1) := by decide +kernel
theorem dX4_added_17 : decode cX4_added 17 = .ok (.iconst 1, 1) := by decide +kernel
theorem dX4_added_18 : decode cX4_added 18 = .ok (.iand, 1) := by decide +kernel
theorem dX4_added_19 : decode cX4_added 19 = .ok (.ifCond .ne 54, 3) := by decide +kernel
theorem dX4_added_22 : decode cX4_added 22 = .ok (.iload 4, 2) := by decide +kernel
theorem dX4_added_24 : decode cX4_added 24 = .ok (.invokestatic 55, 3) := by decide +kernel
theorem dX4_added_27 : decode cX4_added 27 = .ok (.istore 5, 2) := by decide +kernel
theorem dX4_added_29 : decode cX4_added 29 = .ok (.getstatic 65, 3) := by decide +kernel
theorem dX4_added_32 : decode cX4_added 32 = .ok (.iload 5, 2) := by decide +kernel
theorem dX4_added_34 : decode cX4_added 34 = .ok (.iaload, 1) := by decide +kernel
theorem dX4_added_35 : decode cX4_added 35 = .ok (.getstatic 65, 3) := by decide +kernel
theorem dX4_added_38 : decode cX4_added 38 = .ok (.iload_n 2, 1) := by decide +kernel
theorem dX4_added_39 : decode cX4_added 39 = .ok (.iconst 1, 1) := by decide +kernel
theorem dX4_added_40 : decode cX4_added 40 = .ok (.isub, 1) := by decide +kernel
theorem dX4_added_41 : decode cX4_added 41 = .ok (.iload 5, 2) := by decide +kernel
theorem dX4_added_43 : decode cX4_added 43 = .ok (.isub, 1) := by decide +kernel
theorem dX4_added_44 : decode cX4_added 44 = .ok (.iaload, 1) := by decide +kernel
theorem dX4_added_45 : decode cX4_added 45 = .ok (.imul, 1) := by decide +kernel
theorem dX4_added_46 : decode cX4_added 46 = .ok (.istore 6, 2) := by decide +kernel
theorem dX4_added_48 : decode cX4_added 48 = .ok (.iload_n 3, 1) := by decide +kernel
theorem dX4_added_49 : decode cX4_added 49 = .ok (.iload 6, 2) := by decide +kernel
theorem dX4_added_51 : decode cX4_added 51 = .ok (.aload_n 0, 1) := by decide +kernel
theorem dX4_added_52 : decode cX4_added 52 = .ok (.getfield 18, 3) := by decide +kernel
theorem dX4_added_55 : decode cX4_added 55 = .ok (.iload 4, 2) := by decide +kernel
theorem dX4_added_57 : decode cX4_added 57 = .ok (.iconst 1, 1) := by decide +kernel
theorem dX4_added_58 : decode cX4_added 58 = .ok (.iload_n 1, 1) := by decide +kernel
theorem dX4_added_59 : decode cX4_added 59 = .ok (.ishl, 1) := by decide +kernel
theorem dX4_added_60 : decode cX4_added 60 = .ok (.ior, 1) := by decide +kernel
theorem dX4_added_61 : decode cX4_added 61 = .ok (.iaload, 1) := by decide +kernel
theorem dX4_added_62 : decode cX4_added 62 = .ok (.aload_n 0, 1) := by decide +kernel
theorem dX4_added_63 : decode cX4_added 63 = .ok (.getfield 18, 3) := by decide +kernel
theorem dX4_added_66 : decode cX4_added 66 = .ok (.iload 4, 2) := by decide +kernel
theorem dX4_added_68 : decode cX4_added 68 = .ok (.iaload, 1) := by decide +kernel
theorem dX4_added_69 : decode cX4_added 69 = .ok (.isub, 1) := by decide +kernel
theorem dX4_added_70 : decode cX4_added 70 = .ok (.imul, 1) := by decide +kernel
theorem dX4_added_71 : decode cX4_added 71 = .ok (.iadd, 1) := by decide +kernel
theorem dX4_added_72 : decode cX4_added 72 = .ok (.istore_n 3, 1) := by decide +kernel
theorem dX4_added_73 : decode cX4_added 73 = .ok (.iinc 4 1, 3) := by decide +kernel
theorem dX4_added_76 : decode cX4_added 76 = .ok (.goto (-71), 3) := by decide +kernel
theorem dX4_added_79 : decode cX4_added 79 = .ok (.iload_n 3, 1) := by decide +kernel
theorem dX4_added_80 : decode cX4_added 80 = .ok (.ireturn, 1) := by decide +kernel
theorem dX5_init_0 : decode cX5_init 0 = .ok (.aload_n 0, 1) := by decide +kernel
theorem dX5_init_1 : decode cX5_init 1 = .ok (.invokespecial 3, 3) := by decide +kernel
theorem dX5_init_4 : decode cX5_init 4 = .ok (.aload_n 0, 1) := by decide +kernel
theorem dX5_init_5 : decode cX5_init 5 = .ok (.bipush 6, 2) := by decide +kernel
theorem dX5_init_7 : decode cX5_init 7 = .ok (.newarray .int, 2) := by decide +kernel
theorem dX5_init_9 : decode cX5_init 9 = .ok (.putfield 9, 3) := by decide +kernel
theorem dX5_init_12 : decode cX5_init 12 = .ok (.aload_n 0, 1) := by decide +kernel
theorem dX5_init_13 : decode cX5_init 13 = .ok (.bipush 6, 2) := by decide +kernel
theorem dX5_init_15 : decode cX5_init 15 = .ok (.newarray .int, 2) := by decide +kernel
theorem dX5_init_17 : decode cX5_init 17 = .ok (.putfield 15, 3) := by decide +kernel
theorem dX5_init_20 : decode cX5_init 20 = .ok (.aload_n 0, 1) := by decide +kernel
theorem dX5_init_21 : decode cX5_init 21 = .ok (.bipush 6, 2) := by decide +kernel
theorem dX5_init_23 : decode cX5_init 23 = .ok (.newarray .int, 2) := by decide +kernel
theorem dX5_init_25 : decode cX5_init 25 = .ok (.putfield 18, 3) := by decide +kernel
theorem dX5_init_28 : decode cX5_init 28 = .ok (.return_, 1) := by decide +kernel
theorem dX5_add_0 : decode cX5_add 0 = .ok (.aload_n 0, 1) := by decide +kernel
theorem dX5_add_1 : decode cX5_add 1 = .ok (.getfield 21, 3) := by decide +kernel
theorem dX5_add_4 : decode cX5_add 4 = .ok (.ifCond .lt 12, 3) := by decide +kernel
theorem dX5_add_7 : decode cX5_add 7 = .ok (.aload_n 0, 1) := by decide +kernel
theorem dX5_add_8 : decode cX5_add 8 = .ok (.getfield 21, 3) := by decide +kernel
theorem dX5_add_11 : decode cX5_add 11 = .ok (.bipush 6, 2) := by decide +kernel
theorem dX5_add_13 : decode cX5_add 13 = .ok (.if_icmp .lt 5, 3) := by decide +kernel
theorem dX5_add_16 : decode cX5_add 16 = .ok (.iconst 0, 1) := by decide +kernel
theorem dX5_add_17 : decode cX5_add 17 = .ok (.ireturn, 1) := by decide +kernel
theorem dX5_add_18 : decode cX5_add 18 = .ok (.aload_n 0, 1) := by decide +kernel
theorem dX5_add_19 : decode cX5_add 19 = .ok (.getfield 9, 3) := by decide +kernel
theorem dX5_add_22 : decode cX5_add 22 = .ok (.aload_n 0, 1) := by decide +kernel
theorem dX5_add_23 : decode cX5_add 23 = .ok (.getfield 21, 3) := by decide +kernel
theorem dX5_add_26 : decode cX5_add 26 = .ok (.iload_n 1, 1) := by decide +kernel
theorem dX5_add_27 : decode cX5_add 27 = .ok (.iastore, 1) := by decide +kernel
theorem dX5_add_28 : decode cX5_add 28 = .ok (.aload_n 0, 1) := by decide +kernel
theorem dX5_add_29 : decode cX5_add 29 = .ok (.getfield 15, 3) := by decide +kernel
theorem dX5_add_32 : decode cX5_add 32 = .ok (.aload_n 0, 1) := by decide +kernel
theorem dX5_add_33 : decode cX5_add 33 = .ok (.getfield 21, 3) := by decide +kernel
theorem dX5_add_36 : decode cX5_add 36 = .ok (.iload_n 2, 1) := by decide +kernel
theorem dX5_add_37 : decode cX5_add 37 = .ok (.iastore, 1) := by decide +kernel
theorem dX5_add_38 : decode cX5_add 38 = .ok (.aload_n 0, 1) := by decide +kernel
theorem dX5_add_39 : decode cX5_add 39 = .ok (.getfield 18, 3) := by decide +kernel
theorem dX5_add_42 : decode cX5_add 42 = .ok (.aload_n 0, 1) := by decide +kernel
theorem dX5_add_43 : decode cX5_add 43 = .ok (.getfield 21, 3) := by decide +kernel
theorem dX5_add_46 : decode cX5_add 46 = .ok (.iload_n 3, 1) := by decide +kernel
theorem dX5_add_47 : decode cX5_add 47 = .ok (.iastore, 1) := by decide +kernel
theorem dX5_add_48 : decode cX5_add 48 = .ok (.aload_n 0, 1) := by decide +kernel
theorem dX5_add_49 : decode cX5_add 49 = .ok (.dup, 1) := by decide +kernel
theorem dX5_add_50 : decode cX5_add 50 = .ok (.getfield 21, 3) := by decide +kernel
theorem dX5_add_53 : decode cX5_add 53 = .ok (.iconst 1, 1) := by decide +kernel
theorem dX5_add_54 : decode cX5_add 54 = .ok (.iadd, 1) := by decide +kernel
theorem dX5_add_55 : decode cX5_add 55 = .ok (.putfield 21, 3) := by decide +kernel
theorem dX5_add_58 : decode cX5_add 58 = .ok (.iconst 1, 1) := by decide +kernel
theorem dX5_add_59 : decode cX5_add 59 = .ok (.ireturn, 1) := by decide +kernel
theorem dX5_fits_0 : decode cX5_fits 0 = .ok (.iconst 0, 1) := by decide +kernel
theorem dX5_fits_1 : decode cX5_fits 1 = .ok (.istore 4, 2) := by decide +kernel
theorem dX5_fits_3 : decode cX5_fits 3 = .ok (.iload 4, 2) := by decide +kernel
theorem dX5_fits_5 : decode cX5_fits 5 = .ok (.aload_n 0, 1) := by decide +kernel
theorem dX5_fits_6 : decode cX5_fits 6 = .ok (.getfield 21, 3) := by decide +kernel
theorem dX5_fits_9 : decode cX5_fits 9 = .ok (.if_icmp .ge 79, 3) := by decide +kernel
theorem dX5_fits_12 : decode cX5_fits 12 = .ok (.iload 4, 2) := by decide +kernel
theorem dX5_fits_14 : decode cX5_fits 14 = .ok (.bipush 6, 2) := by decide +kernel
theorem dX5_fits_16 : decode cX5_fits 16 = .ok (.if_icmp .ge 72, 3) := by decide +kernel
theorem dX5_fits_19 : decode cX5_fits 19 = .ok (.aload_n 0, 1) := by decide +kernel
theorem dX5_fits_20 : decode cX5_fits 20 = .ok (.getfield 9, 3) := by decide +kernel
theorem dX5_fits_23 : decode cX5_fits 23 = .ok (.iload 4, 2) := by decide +kernel
theorem dX5_fits_25 : decode cX5_fits 25 = .ok (.iaload, 1) := by decide +kernel
theorem dX5_fits_26 : decode cX5_fits 26 = .ok (.iload_n 3, 1) := by decide +kernel
theorem dX5_fits_27 : decode cX5_fits 27 = .ok (.if_icmp .ge 29, 3) := by decide +kernel
theorem dX5_fits_30 : decode cX5_fits 30 = .ok (.aload_n 1, 1) := by decide +kernel
theorem dX5_fits_31 : decode cX5_fits 31 = .ok (.iload_n 2, 1) := by decide +kernel
theorem dX5_fits_32 : decode cX5_fits 32 = .ok (.aload_n 0, 1) := by decide +kernel
theorem dX5_fits_33 : decode cX5_fits 33 = .ok (.getfield 9, 3) := by decide +kernel
theorem dX5_fits_36 : decode cX5_fits 36 = .ok (.iload 4, 2) := by decide +kernel
theorem dX5_fits_38 : decode cX5_fits 38 = .ok (.iaload, 1) := by decide +kernel
theorem dX5_fits_39 : decode cX5_fits 39 = .ok (.aload_n 0, 1) := by decide +kernel
theorem dX5_fits_40 : decode cX5_fits 40 = .ok (.getfield 15, 3) := by decide +kernel
theorem dX5_fits_43 : decode cX5_fits 43 = .ok (.iload 4, 2) := by decide +kernel
theorem dX5_fits_45 : decode cX5_fits 45 = .ok (.iaload, 1) := by decide +kernel
theorem dX5_fits_46 : decode cX5_fits 46 = .ok (.invokevirtual 25, 3) := by decide +kernel
theorem dX5_fits_49 : decode cX5_fits 49 = .ok (.ifCond .le 7, 3) := by decide +kernel
theorem dX5_fits_52 : decode cX5_fits 52 = .ok (.iconst 1, 1) := by decide +kernel
theorem dX5_fits_53 : decode cX5_fits 53 = .ok (.goto 4, 3) := by decide +kernel
theorem dX5_fits_56 : decode cX5_fits 56 = .ok (.iconst 0, 1) := by decide +kernel
theorem dX5_fits_57 : decode cX5_fits 57 = .ok (.istore 5, 2) := by decide +kernel
theorem dX5_fits_59 : decode cX5_fits 59 = .ok (.iload 5, 2) := by decide +kernel
theorem dX5_fits_61 : decode cX5_fits 61 = .ok (.aload_n 0, 1) := by decide +kernel
theorem dX5_fits_62 : decode cX5_fits 62 = .ok (.getfield 18, 3) := by decide +kernel
theorem dX5_fits_65 : decode cX5_fits 65 = .ok (.iload 4, 2) := by decide +kernel
theorem dX5_fits_67 : decode cX5_fits 67 = .ok (.iaload, 1) := by decide +kernel
theorem dX5_fits_68 : decode cX5_fits 68 = .ok (.iconst 1, 1) := by decide +kernel
theorem dX5_fits_69 : decode cX5_fits 69 = .ok (.if_icmp .ne 7, 3) := by decide +kernel
theorem dX5_fits_72 : decode cX5_fits 72 = .ok (.iconst 1, 1) := by decide +kernel
theorem dX5_fits_73 : decode cX5_fits 73 = .ok (.goto 4, 3) := by decide +kernel
theorem dX5_fits_76 : decode cX5_fits 76 = .ok (.iconst 0, 1) := by decide +kernel
theorem dX5_fits_77 : decode cX5_fits 77 = .ok (.if_icmp .eq 5, 3) := by decide +kernel
theorem dX5_fits_80 : decode cX5_fits 80 = .ok (.iconst 0, 1) := by decide +kernel
theorem dX5_fits_81 : decode cX5_fits 81 = .ok (.ireturn, 1) := by decide +kernel
theorem dX5_fits_82 : decode cX5_fits 82 = .ok (.iinc 4 1, 3) := by decide +kernel
theorem dX5_fits_85 : decode cX5_fits 85 = .ok (.goto (-82), 3) := by decide +kernel
theorem dX5_fits_88 : decode cX5_fits 88 = .ok (.iconst 1, 1) := by decide +kernel
theorem dX5_fits_89 : decode cX5_fits 89 = .ok (.ireturn, 1) := by decide +kernel
theorem dX6_init_0 : decode cX6_init 0 = .ok (.aload_n 0, 1) := by decide +kernel
theorem dX6_init_1 : decode cX6_init 1 = .ok (.invokespecial 3, 3) := by decide +kernel
theorem dX6_init_4 : decode cX6_init 4 = .ok (.aload_n 0, 1) := by decide +kernel
theorem dX6_init_5 : decode cX6_init 5 = .ok (.bipush 42, 2) := by decide +kernel
theorem dX6_init_7 : decode cX6_init 7 = .ok (.newarray .int, 2) := by decide +kernel
theorem dX6_init_9 : decode cX6_init 9 = .ok (.putfield 9, 3) := by decide +kernel
theorem dX6_init_12 : decode cX6_init 12 = .ok (.aload_n 0, 1) := by decide +kernel
theorem dX6_init_13 : decode cX6_init 13 = .ok (.bipush 36, 2) := by decide +kernel
theorem dX6_init_15 : decode cX6_init 15 = .ok (.newarray .int, 2) := by decide +kernel
theorem dX6_init_17 : decode cX6_init 17 = .ok (.putfield 15, 3) := by decide +kernel
theorem dX6_init_20 : decode cX6_init 20 = .ok (.return_, 1) := by decide +kernel
theorem dX6_isKept_0 : decode cX6_isKept 0 = .ok (.aload_n 0, 1) := by decide +kernel
theorem dX6_isKept_1 : decode cX6_isKept 1 = .ok (.aload_n 1, 1) := by decide +kernel
theorem dX6_isKept_2 : decode cX6_isKept 2 = .ok (.invokevirtual 18, 3) := by decide +kernel
theorem dX6_isKept_5 : decode cX6_isKept 5 = .ok (.bipush 60, 2) := by decide +kernel
theorem dX6_isKept_7 : decode cX6_isKept 7 = .ok (.iload_n 2, 1) := by decide +kernel
theorem dX6_isKept_8 : decode cX6_isKept 8 = .ok (.imul, 1) := by decide +kernel
theorem dX6_isKept_9 : decode cX6_isKept 9 = .ok (.if_icmp .gt 7, 3) := by decide +kernel
theorem dX6_isKept_12 : decode cX6_isKept 12 = .ok (.iconst 1, 1) := by decide +kernel
theorem dX6_isKept_13 : decode cX6_isKept 13 = .ok (.goto 4, 3) := by decide +kernel
theorem dX6_isKept_16 : decode cX6_isKept 16 = .ok (.iconst 0, 1) := by decide +kernel
theorem dX6_isKept_17 : decode cX6_isKept 17 = .ok (.ireturn, 1) := by decide +kernel
theorem dX6_slowest_0 : decode cX6_slowest 0 = .ok (.iconst 0, 1) := by decide +kernel
theorem dX6_slowest_1 : decode cX6_slowest 1 = .ok (.istore_n 2, 1) := by decide +kernel
theorem dX6_slowest_2 : decode cX6_slowest 2 = .ok (.iload_n 2, 1) := by decide +kernel
theorem dX6_slowest_3 : decode cX6_slowest 3 = .ok (.aload_n 1, 1) := by decide +kernel
theorem dX6_slowest_4 : decode cX6_slowest 4 = .ok (.getfield 22, 3) := by decide +kernel
theorem dX6_slowest_7 : decode cX6_slowest 7 = .ok (.if_icmp .ge 16, 3) := by decide +kernel
theorem dX6_slowest_10 : decode cX6_slowest 10 = .ok (.aload_n 0, 1) := by decide +kernel
theorem dX6_slowest_11 : decode cX6_slowest 11 = .ok (.getfield 9, 3) := by decide +kernel
theorem dX6_slowest_14 : decode cX6_slowest 14 = .ok (.iload_n 2, 1) := by decide +kernel
theorem dX6_slowest_15 : decode cX6_slowest 15 = .ok (.iconst 0, 1) := by decide +kernel
theorem dX6_slowest_16 : decode cX6_slowest 16 = .ok (.iastore, 1) := by decide +kernel
theorem dX6_slowest_17 : decode cX6_slowest 17 = .ok (.iinc 2 1, 3) := by decide +kernel
theorem dX6_slowest_20 : decode cX6_slowest 20 = .ok (.goto (-18), 3) := by decide +kernel
theorem dX6_slowest_23 : decode cX6_slowest 23 = .ok (.iconst 1, 1) := by decide +kernel
theorem dX6_slowest_24 : decode cX6_slowest 24 = .ok (.istore_n 2, 1) := by decide +kernel
theorem dX6_slowest_25 : decode cX6_slowest 25 = .ok (.iload_n 2, 1) := by decide +kernel
theorem dX6_slowest_26 : decode cX6_slowest 26 = .ok (.aload_n 1, 1) := by decide +kernel
theorem dX6_slowest_27 : decode cX6_slowest 27 = .ok (.getfield 22, 3) := by decide +kernel
theorem dX6_slowest_30 : decode cX6_slowest 30 = .ok (.if_icmp .gt 45, 3) := by decide +kernel
theorem dX6_slowest_33 : decode cX6_slowest 33 = .ok (.iconst 0, 1) := by decide +kernel
theorem dX6_slowest_34 : decode cX6_slowest 34 = .ok (.istore_n 3, 1) := by decide +kernel
theorem dX6_slowest_35 : decode cX6_slowest 35 = .ok (.iload_n 3, 1) := by decide +kernel
theorem dX6_slowest_36 : decode cX6_slowest 36 = .ok (.aload_n 1, 1) := by decide +kernel
theorem dX6_slowest_37 : decode cX6_slowest 37 = .ok (.getfield 22, 3) := by decide +kernel
theorem dX6_slowest_40 : decode cX6_slowest 40 = .ok (.if_icmp .ge 29, 3) := by decide +kernel
theorem dX6_slowest_43 : decode cX6_slowest 43 = .ok (.aload_n 0, 1) := by decide +kernel
theorem dX6_slowest_44 : decode cX6_slowest 44 = .ok (.getfield 9, 3) := by decide +kernel
theorem dX6_slowest_47 : decode cX6_slowest 47 = .ok (.iload_n 2, 1) := by decide +kernel
theorem dX6_slowest_48 : decode cX6_slowest 48 = .ok (.bipush 6, 2) := by decide +kernel
theorem dX6_slowest_50 : decode cX6_slowest 50 = .ok (.imul, 1) := by decide +kernel
theorem dX6_slowest_51 : decode cX6_slowest 51 = .ok (.iload_n 3, 1) := by decide +kernel
theorem dX6_slowest_52 : decode cX6_slowest 52 = .ok (.iadd, 1) := by decide +kernel
theorem dX6_slowest_53 : decode cX6_slowest 53 = .ok (.aload_n 0, 1) := by decide +kernel
theorem dX6_slowest_54 : decode cX6_slowest 54 = .ok (.aload_n 1, 1) := by decide +kernel
theorem dX6_slowest_55 : decode cX6_slowest 55 = .ok (.iload_n 2, 1) := by decide +kernel
theorem dX6_slowest_56 : decode cX6_slowest 56 = .ok (.iconst 1, 1) := by decide +kernel
theorem dX6_slowest_57 : decode cX6_slowest 57 = .ok (.isub, 1) := by decide +kernel
theorem dX6_slowest_58 : decode cX6_slowest 58 = .ok (.iload_n 3, 1) := by decide +kernel
theorem dX6_slowest_59 : decode cX6_slowest 59 = .ok (.invokevirtual 28, 3) := by decide +kernel
theorem dX6_slowest_62 : decode cX6_slowest 62 = .ok (.iastore, 1) := by decide +kernel
theorem dX6_slowest_63 : decode cX6_slowest 63 = .ok (.iinc 3 1, 3) := by decide +kernel
theorem dX6_slowest_66 : decode cX6_slowest 66 = .ok (.goto (-31), 3) := by decide +kernel
theorem dX6_slowest_69 : decode cX6_slowest 69 = .ok (.iinc 2 1, 3) := by decide +kernel
theorem dX6_slowest_72 : decode cX6_slowest 72 = .ok (.goto (-47), 3) := by decide +kernel
theorem dX6_slowest_75 : decode cX6_slowest 75 = .ok (.iconst (-1), 1) := by decide +kernel
theorem dX6_slowest_76 : decode cX6_slowest 76 = .ok (.istore_n 2, 1) := by decide +kernel
theorem dX6_slowest_77 : decode cX6_slowest 77 = .ok (.iconst 0, 1) := by decide +kernel
theorem dX6_slowest_78 : decode cX6_slowest 78 = .ok (.istore_n 3, 1) := by decide +kernel
theorem dX6_slowest_79 : decode cX6_slowest 79 = .ok (.iload_n 3, 1) := by decide +kernel
theorem dX6_slowest_80 : decode cX6_slowest 80 = .ok (.aload_n 1, 1) := by decide +kernel
theorem dX6_slowest_81 : decode cX6_slowest 81 = .ok (.getfield 22, 3) := by decide +kernel
theorem dX6_slowest_84 : decode cX6_slowest 84 = .ok (.if_icmp .ge 23, 3) := by decide +kernel
theorem dX6_slowest_87 : decode cX6_slowest 87 = .ok (.iload_n 2, 1) := by decide +kernel
theorem dX6_slowest_88 : decode cX6_slowest 88 = .ok (.aload_n 0, 1) := by decide +kernel
theorem dX6_slowest_89 : decode cX6_slowest 89 = .ok (.aload_n 1, 1) := by decide +kernel
theorem dX6_slowest_90 : decode cX6_slowest 90 = .ok (.getfield 22, 3) := by decide +kernel
theorem dX6_slowest_93 : decode cX6_slowest 93 = .ok (.iload_n 3, 1) := by decide +kernel
theorem dX6_slowest_94 : decode cX6_slowest 94 = .ok (.invokevirtual 32, 3) := by decide +kernel
theorem dX6_slowest_97 : decode cX6_slowest 97 = .ok (.invokestatic 36, 3) := by decide +kernel
theorem dX6_slowest_100 : decode cX6_slowest 100 = .ok (.istore_n 2, 1) := by decide +kernel
theorem dX6_slowest_101 : decode cX6_slowest 101 = .ok (.iinc 3 1, 3) := by decide +kernel
theorem dX6_slowest_104 : decode cX6_slowest 104 = .ok (.goto (-25), 3) := by decide +kernel
theorem dX6_slowest_107 : decode cX6_slowest 107 = .ok (.iload_n 2, 1) := by decide +kernel
theorem dX6_slowest_108 : decode cX6_slowest 108 = .ok (.ireturn, 1) := by decide +kernel
theorem dX6_longest_0 : decode cX6_longest 0 = .ok (.iconst (-1), 1) := by decide +kernel
theorem dX6_longest_1 : decode cX6_longest 1 = .ok (.istore 4, 2) := by decide +kernel
theorem dX6_longest_3 : decode cX6_longest 3 = .ok (.iconst 0, 1) := by decide +kernel
theorem dX6_longest_4 : decode cX6_longest 4 = .ok (.istore 5, 2) := by decide +kernel
theorem dX6_longest_6 : decode cX6_longest 6 = .ok (.iload 5, 2) := by decide +kernel
theorem dX6_longest_8 : decode cX6_longest 8 = .ok (.aload_n 1, 1) := by decide +kernel
theorem dX6_longest_9 : decode cX6_longest 9 = .ok (.getfield 22, 3) := by decide +kernel
theorem dX6_longest_12 : decode cX6_longest 12 = .ok (.if_icmp .ge 56, 3) := by decide +kernel
theorem dX6_longest_15 : decode cX6_longest 15 = .ok (.aload_n 0, 1) := by decide +kernel
theorem dX6_longest_16 : decode cX6_longest 16 = .ok (.getfield 9, 3) := by decide +kernel
theorem dX6_longest_19 : decode cX6_longest 19 = .ok (.iload_n 2, 1) := by decide +kernel
theorem dX6_longest_20 : decode cX6_longest 20 = .ok (.bipush 6, 2) := by decide +kernel
theorem dX6_longest_22 : decode cX6_longest 22 = .ok (.imul, 1) := by decide +kernel
theorem dX6_longest_23 : decode cX6_longest 23 = .ok (.iload 5, 2) := by decide +kernel
theorem dX6_longest_25 : decode cX6_longest 25 = .ok (.iadd, 1) := by decide +kernel
theorem dX6_longest_26 : decode cX6_longest 26 = .ok (.iaload, 1) := by decide +kernel
theorem dX6_longest_27 : decode cX6_longest 27 = .ok (.istore 6, 2) := by decide +kernel
theorem dX6_longest_29 : decode cX6_longest 29 = .ok (.aload_n 1, 1) := by decide +kernel
theorem dX6_longest_30 : decode cX6_longest 30 = .ok (.iload 5, 2) := by decide +kernel
theorem dX6_longest_32 : decode cX6_longest 32 = .ok (.iload_n 3, 1) := by decide +kernel
theorem dX6_longest_33 : decode cX6_longest 33 = .ok (.invokevirtual 41, 3) := by decide +kernel
theorem dX6_longest_36 : decode cX6_longest 36 = .ok (.istore 7, 2) := by decide +kernel
theorem dX6_longest_38 : decode cX6_longest 38 = .ok (.iload 6, 2) := by decide +kernel
theorem dX6_longest_40 : decode cX6_longest 40 = .ok (.ifCond .lt 22, 3) := by decide +kernel
theorem dX6_longest_43 : decode cX6_longest 43 = .ok (.iload 7, 2) := by decide +kernel
theorem dX6_longest_45 : decode cX6_longest 45 = .ok (.bipush (-9), 2) := by decide +kernel
theorem dX6_longest_47 : decode cX6_longest 47 = .ok (.if_icmp .eq 15, 3) := by decide +kernel
theorem dX6_longest_50 : decode cX6_longest 50 = .ok (.iload 4, 2) := by decide +kernel
theorem dX6_longest_52 : decode cX6_longest 52 = .ok (.iload 6, 2) := by decide +kernel
theorem dX6_longest_54 : decode cX6_longest 54 = .ok (.iload 7, 2) := by decide +kernel
theorem dX6_longest_56 : decode cX6_longest 56 = .ok (.iadd, 1) := by decide +kernel
theorem dX6_longest_57 : decode cX6_longest 57 = .ok (.invokestatic 36, 3) := by decide +kernel
theorem dX6_longest_60 : decode cX6_longest 60 = .ok (.istore 4, 2) := by decide +kernel
theorem dX6_longest_62 : decode cX6_longest 62 = .ok (.iinc 5 1, 3) := by decide +kernel
theorem dX6_longest_65 : decode cX6_longest 65 = .ok (.goto (-59), 3) := by decide +kernel
theorem dX6_longest_68 : decode cX6_longest 68 = .ok (.iload 4, 2) := by decide +kernel
theorem dX6_longest_70 : decode cX6_longest 70 = .ok (.ireturn, 1) := by decide +kernel
theorem dX6_leastMean_0 : decode cX6_leastMean 0 = .ok (.aload_n 0, 1) := by decide +kernel
theorem dX6_leastMean_1 : decode cX6_leastMean 1 = .ok (.getfield 9, 3) := by decide +kernel
theorem dX6_leastMean_4 : decode cX6_leastMean 4 = .ok (.iload_n 1, 1) := by decide +kernel
theorem dX6_leastMean_5 : decode cX6_leastMean 5 = .ok (.bipush 6, 2) := by decide +kernel
theorem dX6_leastMean_7 : decode cX6_leastMean 7 = .ok (.imul, 1) := by decide +kernel
theorem dX6_leastMean_8 : decode cX6_leastMean 8 = .ok (.iload_n 2, 1) := by decide +kernel
theorem dX6_leastMean_9 : decode cX6_leastMean 9 = .ok (.iadd, 1) := by decide +kernel
theorem dX6_leastMean_10 : decode cX6_leastMean 10 = .ok (.iaload, 1) := by decide +kernel
theorem dX6_leastMean_11 : decode cX6_leastMean 11 = .ok (.istore_n 3, 1) := by decide +kernel
theorem dX6_leastMean_12 : decode cX6_leastMean 12 = .ok (.iload_n 3, 1) := by decide +kernel
theorem dX6_leastMean_13 : decode cX6_leastMean 13 = .ok (.ifCond .ge 5, 3) := by decide +kernel
theorem dX6_leastMean_16 : decode cX6_leastMean 16 = .ok (.iconst (-1), 1) := by decide +kernel
theorem dX6_leastMean_17 : decode cX6_leastMean 17 = .ok (.ireturn, 1) := by decide +kernel
theorem dX6_leastMean_18 : decode cX6_leastMean 18 = .ok (.ldc 44, 2) := by decide +kernel
theorem dX6_leastMean_20 : decode cX6_leastMean 20 = .ok (.istore 4, 2) := by decide +kernel
theorem dX6_leastMean_22 : decode cX6_leastMean 22 = .ok (.iconst 0, 1) := by decide +kernel
theorem dX6_leastMean_23 : decode cX6_leastMean 23 = .ok (.istore 5, 2) := by decide +kernel
theorem dX6_leastMean_25 : decode cX6_leastMean 25 = .ok (.iload 5, 2) := by decide +kernel
theorem dX6_leastMean_27 : decode cX6_leastMean 27 = .ok (.iload_n 1, 1) := by decide +kernel
theorem dX6_leastMean_28 : decode cX6_leastMean 28 = .ok (.if_icmp .ge 39, 3) := by decide +kernel
theorem dX6_leastMean_31 : decode cX6_leastMean 31 = .ok (.iload 4, 2) := by decide +kernel
theorem dX6_leastMean_33 : decode cX6_leastMean 33 = .ok (.iload_n 3, 1) := by decide +kernel
theorem dX6_leastMean_34 : decode cX6_leastMean 34 = .ok (.aload_n 0, 1) := by decide +kernel
theorem dX6_leastMean_35 : decode cX6_leastMean 35 = .ok (.getfield 9, 3) := by decide +kernel
theorem dX6_leastMean_38 : decode cX6_leastMean 38 = .ok (.iload 5, 2) := by decide +kernel
theorem dX6_leastMean_40 : decode cX6_leastMean 40 = .ok (.bipush 6, 2) := by decide +kernel
theorem dX6_leastMean_42 : decode cX6_leastMean 42 = .ok (.imul, 1) := by decide +kernel
theorem dX6_leastMean_43 : decode cX6_leastMean 43 = .ok (.iload_n 2, 1) := by decide +kernel
theorem dX6_leastMean_44 : decode cX6_leastMean 44 = .ok (.iadd, 1) := by decide +kernel
theorem dX6_leastMean_45 : decode cX6_leastMean 45 = .ok (.iaload, 1) := by decide +kernel
theorem dX6_leastMean_46 : decode cX6_leastMean 46 = .ok (.isub, 1) := by decide +kernel
theorem dX6_leastMean_47 : decode cX6_leastMean 47 = .ok (.getstatic 45, 3) := by decide +kernel
theorem dX6_leastMean_50 : decode cX6_leastMean 50 = .ok (.iload_n 1, 1) := by decide +kernel
theorem dX6_leastMean_51 : decode cX6_leastMean 51 = .ok (.iload 5, 2) := by decide +kernel
theorem dX6_leastMean_53 : decode cX6_leastMean 53 = .ok (.isub, 1) := by decide +kernel
theorem dX6_leastMean_54 : decode cX6_leastMean 54 = .ok (.iaload, 1) := by decide +kernel
theorem dX6_leastMean_55 : decode cX6_leastMean 55 = .ok (.imul, 1) := by decide +kernel
theorem dX6_leastMean_56 : decode cX6_leastMean 56 = .ok (.invokestatic 48, 3) := by decide +kernel
theorem dX6_leastMean_59 : decode cX6_leastMean 59 = .ok (.istore 4, 2) := by decide +kernel
theorem dX6_leastMean_61 : decode cX6_leastMean 61 = .ok (.iinc 5 1, 3) := by decide +kernel
theorem dX6_leastMean_64 : decode cX6_leastMean 64 = .ok (.goto (-39), 3) := by decide +kernel
theorem dX6_leastMean_67 : decode cX6_leastMean 67 = .ok (.iload 4, 2) := by decide +kernel
theorem dX6_leastMean_69 : decode cX6_leastMean 69 = .ok (.ireturn, 1) := by decide +kernel
theorem dX6_compare_0 : decode cX6_compare 0 = .ok (.aload_n 0, 1) := by decide +kernel
theorem dX6_compare_1 : decode cX6_compare 1 = .ok (.aload_n 0, 1) := by decide +kernel
theorem dX6_compare_2 : decode cX6_compare 2 = .ok (.aload_n 1, 1) := by decide +kernel
theorem dX6_compare_3 : decode cX6_compare 3 = .ok (.invokevirtual 18, 3) := by decide +kernel
theorem dX6_compare_6 : decode cX6_compare 6 = .ok (.putfield 51, 3) := by decide +kernel
theorem dX6_compare_9 : decode cX6_compare 9 = .ok (.iconst 0, 1) := by decide +kernel
theorem dX6_compare_10 : decode cX6_compare 10 = .ok (.istore_n 2, 1) := by decide +kernel
theorem dX6_compare_11 : decode cX6_compare 11 = .ok (.iload_n 2, 1) := by decide +kernel
theorem dX6_compare_12 : decode cX6_compare 12 = .ok (.aload_n 1, 1) := by decide +kernel
theorem dX6_compare_13 : decode cX6_compare 13 = .ok (.getfield 22, 3) := by decide +kernel
theorem dX6_compare_16 : decode cX6_compare 16 = .ok (.if_icmp .ge 56, 3) := by decide +kernel
theorem dX6_compare_19 : decode cX6_compare 19 = .ok (.iconst 0, 1) := by decide +kernel
theorem dX6_compare_20 : decode cX6_compare 20 = .ok (.istore_n 3, 1) := by decide +kernel
theorem dX6_compare_21 : decode cX6_compare 21 = .ok (.iload_n 3, 1) := by decide +kernel
theorem dX6_compare_22 : decode cX6_compare 22 = .ok (.aload_n 1, 1) := by decide +kernel
theorem dX6_compare_23 : decode cX6_compare 23 = .ok (.getfield 22, 3) := by decide +kernel
theorem dX6_compare_26 : decode cX6_compare 26 = .ok (.if_icmp .ge 40, 3) := by decide +kernel
theorem dX6_compare_29 : decode cX6_compare 29 = .ok (.iload_n 2, 1) := by decide +kernel
theorem dX6_compare_30 : decode cX6_compare 30 = .ok (.iload_n 3, 1) := by decide +kernel
theorem dX6_compare_31 : decode cX6_compare 31 = .ok (.if_icmp .ne 7, 3) := by decide +kernel
theorem dX6_compare_34 : decode cX6_compare 34 = .ok (.iconst 0, 1) := by decide +kernel
theorem dX6_compare_35 : decode cX6_compare 35 = .ok (.goto 10, 3) := by decide +kernel
theorem dX6_compare_38 : decode cX6_compare 38 = .ok (.aload_n 0, 1) := by decide +kernel
theorem dX6_compare_39 : decode cX6_compare 39 = .ok (.aload_n 1, 1) := by decide +kernel
theorem dX6_compare_40 : decode cX6_compare 40 = .ok (.iload_n 2, 1) := by decide +kernel
theorem dX6_compare_41 : decode cX6_compare 41 = .ok (.iload_n 3, 1) := by decide +kernel
theorem dX6_compare_42 : decode cX6_compare 42 = .ok (.invokevirtual 54, 3) := by decide +kernel
theorem dX6_compare_45 : decode cX6_compare 45 = .ok (.istore 4, 2) := by decide +kernel
theorem dX6_compare_47 : decode cX6_compare 47 = .ok (.aload_n 0, 1) := by decide +kernel
theorem dX6_compare_48 : decode cX6_compare 48 = .ok (.getfield 15, 3) := by decide +kernel
theorem dX6_compare_51 : decode cX6_compare 51 = .ok (.iload_n 2, 1) := by decide +kernel
theorem dX6_compare_52 : decode cX6_compare 52 = .ok (.bipush 6, 2) := by decide +kernel
theorem dX6_compare_54 : decode cX6_compare 54 = .ok (.imul, 1) := by decide +kernel
theorem dX6_compare_55 : decode cX6_compare 55 = .ok (.iload_n 3, 1) := by decide +kernel
theorem dX6_compare_56 : decode cX6_compare 56 = .ok (.iadd, 1) := by decide +kernel
theorem dX6_compare_57 : decode cX6_compare 57 = .ok (.iload 4, 2) := by decide +kernel
theorem dX6_compare_59 : decode cX6_compare 59 = .ok (.iastore, 1) := by decide +kernel
theorem dX6_compare_60 : decode cX6_compare 60 = .ok (.iinc 3 1, 3) := by decide +kernel
theorem dX6_compare_63 : decode cX6_compare 63 = .ok (.goto (-42), 3) := by decide +kernel
theorem dX6_compare_66 : decode cX6_compare 66 = .ok (.iinc 2 1, 3) := by decide +kernel
theorem dX6_compare_69 : decode cX6_compare 69 = .ok (.goto (-58), 3) := by decide +kernel
theorem dX6_compare_72 : decode cX6_compare 72 = .ok (.iconst 0, 1) := by decide +kernel
theorem dX6_compare_73 : decode cX6_compare 73 = .ok (.istore_n 2, 1) := by decide +kernel
theorem dX6_compare_74 : decode cX6_compare 74 = .ok (.iload_n 2, 1) := by decide +kernel
theorem dX6_compare_75 : decode cX6_compare 75 = .ok (.aload_n 1, 1) := by decide +kernel
theorem dX6_compare_76 : decode cX6_compare 76 = .ok (.getfield 22, 3) := by decide +kernel
theorem dX6_compare_79 : decode cX6_compare 79 = .ok (.if_icmp .ge 51, 3) := by decide +kernel
theorem dX6_compare_82 : decode cX6_compare 82 = .ok (.iconst 0, 1) := by decide +kernel
theorem dX6_compare_83 : decode cX6_compare 83 = .ok (.istore_n 3, 1) := by decide +kernel
theorem dX6_compare_84 : decode cX6_compare 84 = .ok (.iload_n 3, 1) := by decide +kernel
theorem dX6_compare_85 : decode cX6_compare 85 = .ok (.aload_n 1, 1) := by decide +kernel
theorem dX6_compare_86 : decode cX6_compare 86 = .ok (.getfield 22, 3) := by decide +kernel
theorem dX6_compare_89 : decode cX6_compare 89 = .ok (.if_icmp .ge 35, 3) := by decide +kernel
theorem dX6_compare_92 : decode cX6_compare 92 = .ok (.iconst 0, 1) := by decide +kernel
theorem dX6_compare_93 : decode cX6_compare 93 = .ok (.istore 4, 2) := by decide +kernel
theorem dX6_compare_95 : decode cX6_compare 95 = .ok (.iload 4, 2) := by decide +kernel
theorem dX6_compare_97 : decode cX6_compare 97 = .ok (.aload_n 1, 1) := by decide +kernel
theorem dX6_compare_98 : decode cX6_compare 98 = .ok (.getfield 22, 3) := by decide +kernel
theorem dX6_compare_101 : decode cX6_compare 101 = .ok (.if_icmp .ge 17, 3) := by decide +kernel
theorem dX6_compare_104 : decode cX6_compare 104 = .ok (.aload_n 0, 1) := by decide +kernel
theorem dX6_compare_105 : decode cX6_compare 105 = .ok (.iload_n 3, 1) := by decide +kernel
theorem dX6_compare_106 : decode cX6_compare 106 = .ok (.iload_n 2, 1) := by decide +kernel
theorem dX6_compare_107 : decode cX6_compare 107 = .ok (.iload 4, 2) := by decide +kernel
theorem dX6_compare_109 : decode cX6_compare 109 = .ok (.invokevirtual 57, 3) := by decide +kernel
theorem dX6_compare_112 : decode cX6_compare 112 = .ok (.iinc 4 1, 3) := by decide +kernel
theorem dX6_compare_115 : decode cX6_compare 115 = .ok (.goto (-20), 3) := by decide +kernel
theorem dX6_compare_118 : decode cX6_compare 118 = .ok (.iinc 3 1, 3) := by decide +kernel
theorem dX6_compare_121 : decode cX6_compare 121 = .ok (.goto (-37), 3) := by decide +kernel
theorem dX6_compare_124 : decode cX6_compare 124 = .ok (.iinc 2 1, 3) := by decide +kernel
theorem dX6_compare_127 : decode cX6_compare 127 = .ok (.goto (-53), 3) := by decide +kernel
theorem dX6_compare_130 : decode cX6_compare 130 = .ok (.return_, 1) := by decide +kernel
theorem dX6_gainOf_0 : decode cX6_gainOf 0 = .ok (.aload_n 1, 1) := by decide +kernel
theorem dX6_gainOf_1 : decode cX6_gainOf 1 = .ok (.iload_n 2, 1) := by decide +kernel
theorem dX6_gainOf_2 : decode cX6_gainOf 2 = .ok (.iload_n 3, 1) := by decide +kernel
theorem dX6_gainOf_3 : decode cX6_gainOf 3 = .ok (.invokevirtual 41, 3) := by decide +kernel
theorem dX6_gainOf_6 : decode cX6_gainOf 6 = .ok (.istore 4, 2) := by decide +kernel
theorem dX6_gainOf_8 : decode cX6_gainOf 8 = .ok (.iload 4, 2) := by decide +kernel
theorem dX6_gainOf_10 : decode cX6_gainOf 10 = .ok (.bipush (-9), 2) := by decide +kernel
theorem dX6_gainOf_12 : decode cX6_gainOf 12 = .ok (.if_icmp .ne 8, 3) := by decide +kernel
theorem dX6_gainOf_15 : decode cX6_gainOf 15 = .ok (.ldc 61, 2) := by decide +kernel
theorem dX6_gainOf_17 : decode cX6_gainOf 17 = .ok (.goto 13, 3) := by decide +kernel
theorem dX6_gainOf_20 : decode cX6_gainOf 20 = .ok (.bipush 60, 2) := by decide +kernel
theorem dX6_gainOf_22 : decode cX6_gainOf 22 = .ok (.iload 4, 2) := by decide +kernel
theorem dX6_gainOf_24 : decode cX6_gainOf 24 = .ok (.imul, 1) := by decide +kernel
theorem dX6_gainOf_25 : decode cX6_gainOf 25 = .ok (.aload_n 0, 1) := by decide +kernel
theorem dX6_gainOf_26 : decode cX6_gainOf 26 = .ok (.getfield 51, 3) := by decide +kernel
theorem dX6_gainOf_29 : decode cX6_gainOf 29 = .ok (.isub, 1) := by decide +kernel
theorem dX6_gainOf_30 : decode cX6_gainOf 30 = .ok (.ireturn, 1) := by decide +kernel
theorem dX6_join_0 : decode cX6_join 0 = .ok (.aload_n 0, 1) := by decide +kernel
theorem dX6_join_1 : decode cX6_join 1 = .ok (.getfield 15, 3) := by decide +kernel
theorem dX6_join_4 : decode cX6_join 4 = .ok (.iload_n 1, 1) := by decide +kernel
theorem dX6_join_5 : decode cX6_join 5 = .ok (.bipush 6, 2) := by decide +kernel
theorem dX6_join_7 : decode cX6_join 7 = .ok (.imul, 1) := by decide +kernel
theorem dX6_join_8 : decode cX6_join 8 = .ok (.iload_n 2, 1) := by decide +kernel
theorem dX6_join_9 : decode cX6_join 9 = .ok (.iadd, 1) := by decide +kernel
theorem dX6_join_10 : decode cX6_join 10 = .ok (.iaload, 1) := by decide +kernel
theorem dX6_join_11 : decode cX6_join 11 = .ok (.istore 4, 2) := by decide +kernel
theorem dX6_join_13 : decode cX6_join 13 = .ok (.aload_n 0, 1) := by decide +kernel
theorem dX6_join_14 : decode cX6_join 14 = .ok (.getfield 15, 3) := by decide +kernel
theorem dX6_join_17 : decode cX6_join 17 = .ok (.iload_n 2, 1) := by decide +kernel
theorem dX6_join_18 : decode cX6_join 18 = .ok (.bipush 6, 2) := by decide +kernel
theorem dX6_join_20 : decode cX6_join 20 = .ok (.imul, 1) := by decide +kernel
theorem dX6_join_21 : decode cX6_join 21 = .ok (.iload_n 3, 1) := by decide +kernel
theorem dX6_join_22 : decode cX6_join 22 = .ok (.iadd, 1) := by decide +kernel
theorem dX6_join_23 : decode cX6_join 23 = .ok (.iaload, 1) := by decide +kernel
theorem dX6_join_24 : decode cX6_join 24 = .ok (.istore 5, 2) := by decide +kernel
theorem dX6_join_26 : decode cX6_join 26 = .ok (.iload 4, 2) := by decide +kernel
theorem dX6_join_28 : decode cX6_join 28 = .ok (.ldc 61, 2) := by decide +kernel
theorem dX6_join_30 : decode cX6_join 30 = .ok (.if_icmp .eq 40, 3) := by decide +kernel
theorem dX6_join_33 : decode cX6_join 33 = .ok (.iload 5, 2) := by decide +kernel
theorem dX6_join_35 : decode cX6_join 35 = .ok (.ldc 61, 2) := by decide +kernel
theorem dX6_join_37 : decode cX6_join 37 = .ok (.if_icmp .eq 33, 3) := by decide +kernel
theorem dX6_join_40 : decode cX6_join 40 = .ok (.iload_n 1, 1) := by decide +kernel
theorem dX6_join_41 : decode cX6_join 41 = .ok (.bipush 6, 2) := by decide +kernel
theorem dX6_join_43 : decode cX6_join 43 = .ok (.imul, 1) := by decide +kernel
theorem dX6_join_44 : decode cX6_join 44 = .ok (.iload_n 3, 1) := by decide +kernel
theorem dX6_join_45 : decode cX6_join 45 = .ok (.iadd, 1) := by decide +kernel
theorem dX6_join_46 : decode cX6_join 46 = .ok (.istore 6, 2) := by decide +kernel
theorem dX6_join_48 : decode cX6_join 48 = .ok (.aload_n 0, 1) := by decide +kernel
theorem dX6_join_49 : decode cX6_join 49 = .ok (.getfield 15, 3) := by decide +kernel
theorem dX6_join_52 : decode cX6_join 52 = .ok (.iload 6, 2) := by decide +kernel
theorem dX6_join_54 : decode cX6_join 54 = .ok (.aload_n 0, 1) := by decide +kernel
theorem dX6_join_55 : decode cX6_join 55 = .ok (.getfield 15, 3) := by decide +kernel
theorem dX6_join_58 : decode cX6_join 58 = .ok (.iload 6, 2) := by decide +kernel
theorem dX6_join_60 : decode cX6_join 60 = .ok (.iaload, 1) := by decide +kernel
theorem dX6_join_61 : decode cX6_join 61 = .ok (.iload 4, 2) := by decide +kernel
theorem dX6_join_63 : decode cX6_join 63 = .ok (.iload 5, 2) := by decide +kernel
theorem dX6_join_65 : decode cX6_join 65 = .ok (.iadd, 1) := by decide +kernel
theorem dX6_join_66 : decode cX6_join 66 = .ok (.invokestatic 36, 3) := by decide +kernel
theorem dX6_join_69 : decode cX6_join 69 = .ok (.iastore, 1) := by decide +kernel
theorem dX6_join_70 : decode cX6_join 70 = .ok (.return_, 1) := by decide +kernel
theorem dX6_comesBack_0 : decode cX6_comesBack 0 = .ok (.aload_n 0, 1) := by decide +kernel
theorem dX6_comesBack_1 : decode cX6_comesBack 1 = .ok (.getfield 15, 3) := by decide +kernel
theorem dX6_comesBack_4 : decode cX6_comesBack 4 = .ok (.iload_n 2, 1) := by decide +kernel
theorem dX6_comesBack_5 : decode cX6_comesBack 5 = .ok (.bipush 6, 2) := by decide +kernel
theorem dX6_comesBack_7 : decode cX6_comesBack 7 = .ok (.imul, 1) := by decide +kernel
theorem dX6_comesBack_8 : decode cX6_comesBack 8 = .ok (.iload_n 1, 1) := by decide +kernel
theorem dX6_comesBack_9 : decode cX6_comesBack 9 = .ok (.iadd, 1) := by decide +kernel
theorem dX6_comesBack_10 : decode cX6_comesBack 10 = .ok (.iaload, 1) := by decide +kernel
theorem dX6_comesBack_11 : decode cX6_comesBack 11 = .ok (.ldc 61, 2) := by decide +kernel
theorem dX6_comesBack_13 : decode cX6_comesBack 13 = .ok (.if_icmp .eq 7, 3) := by decide +kernel
theorem dX6_comesBack_16 : decode cX6_comesBack 16 = .ok (.iconst 1, 1) := by decide +kernel
theorem dX6_comesBack_17 : decode cX6_comesBack 17 = .ok (.goto 4, 3) := by decide +kernel
theorem dX6_comesBack_20 : decode cX6_comesBack 20 = .ok (.iconst 0, 1) := by decide +kernel
theorem dX6_comesBack_21 : decode cX6_comesBack 21 = .ok (.ireturn, 1) := by decide +kernel
theorem dX6_isCritical_0 : decode cX6_isCritical 0 = .ok (.aload_n 1, 1) := by decide +kernel
theorem dX6_isCritical_1 : decode cX6_isCritical 1 = .ok (.iload_n 2, 1) := by decide +kernel
theorem dX6_isCritical_2 : decode cX6_isCritical 2 = .ok (.iload_n 3, 1) := by decide +kernel
theorem dX6_isCritical_3 : decode cX6_isCritical 3 = .ok (.invokevirtual 41, 3) := by decide +kernel
theorem dX6_isCritical_6 : decode cX6_isCritical 6 = .ok (.bipush (-9), 2) := by decide +kernel
theorem dX6_isCritical_8 : decode cX6_isCritical 8 = .ok (.if_icmp .eq 12, 3) := by decide +kernel
theorem dX6_isCritical_11 : decode cX6_isCritical 11 = .ok (.aload_n 0, 1) := by decide +kernel
theorem dX6_isCritical_12 : decode cX6_isCritical 12 = .ok (.iload_n 2, 1) := by decide +kernel
theorem dX6_isCritical_13 : decode cX6_isCritical 13 = .ok (.iload_n 3, 1) := by decide +kernel
theorem dX6_isCritical_14 : decode cX6_isCritical 14 = .ok (.invokevirtual 62, 3) := by decide +kernel
theorem dX6_isCritical_17 : decode cX6_isCritical 17 = .ok (.ifCond .ne 5, 3) := by decide +kernel
theorem dX6_isCritical_20 : decode cX6_isCritical 20 = .ok (.iconst 0, 1) := by decide +kernel
theorem dX6_isCritical_21 : decode cX6_isCritical 21 = .ok (.ireturn, 1) := by decide +kernel
theorem dX6_isCritical_22 : decode cX6_isCritical 22 = .ok (.aload_n 0, 1) := by decide +kernel
theorem dX6_isCritical_23 : decode cX6_isCritical 23 = .ok (.aload_n 1, 1) := by decide +kernel
theorem dX6_isCritical_24 : decode cX6_isCritical 24 = .ok (.iload_n 2, 1) := by decide +kernel
theorem dX6_isCritical_25 : decode cX6_isCritical 25 = .ok (.iload_n 3, 1) := by decide +kernel
theorem dX6_isCritical_26 : decode cX6_isCritical 26 = .ok (.invokevirtual 54, 3) := by decide +kernel
theorem dX6_isCritical_29 : decode cX6_isCritical 29 = .ok (.aload_n 0, 1) := by decide +kernel
theorem dX6_isCritical_30 : decode cX6_isCritical 30 = .ok (.getfield 15, 3) := by decide +kernel
theorem dX6_isCritical_33 : decode cX6_isCritical 33 = .ok (.iload_n 3, 1) := by decide +kernel
theorem dX6_isCritical_34 : decode cX6_isCritical 34 = .ok (.bipush 6, 2) := by decide +kernel
theorem dX6_isCritical_36 : decode cX6_isCritical 36 = .ok (.imul, 1) := by decide +kernel
theorem dX6_isCritical_37 : decode cX6_isCritical 37 = .ok (.iload_n 2, 1) := by decide +kernel
theorem dX6_isCritical_38 : decode cX6_isCritical 38 = .ok (.iadd, 1) := by decide +kernel
theorem dX6_isCritical_39 : decode cX6_isCritical 39 = .ok (.iaload, 1) := by decide +kernel
theorem dX6_isCritical_40 : decode cX6_isCritical 40 = .ok (.iadd, 1) := by decide +kernel
theorem dX6_isCritical_41 : decode cX6_isCritical 41 = .ok (.ifCond .ne 7, 3) := by decide +kernel
theorem dX6_isCritical_44 : decode cX6_isCritical 44 = .ok (.iconst 1, 1) := by decide +kernel
theorem dX6_isCritical_45 : decode cX6_isCritical 45 = .ok (.goto 4, 3) := by decide +kernel
theorem dX6_isCritical_48 : decode cX6_isCritical 48 = .ok (.iconst 0, 1) := by decide +kernel
theorem dX6_isCritical_49 : decode cX6_isCritical 49 = .ok (.ireturn, 1) := by decide +kernel
theorem dX7_init_0 : decode cX7_init 0 = .ok (.aload_n 0, 1) := by decide +kernel
theorem dX7_init_1 : decode cX7_init 1 = .ok (.invokespecial 1, 3) := by decide +kernel
theorem dX7_init_4 : decode cX7_init 4 = .ok (.aload_n 0, 1) := by decide +kernel
theorem dX7_init_5 : decode cX7_init 5 = .ok (.bipush 64, 2) := by decide +kernel
theorem dX7_init_7 : decode cX7_init 7 = .ok (.newarray .int, 2) := by decide +kernel
theorem dX7_init_9 : decode cX7_init 9 = .ok (.putfield 9, 3) := by decide +kernel
theorem dX7_init_12 : decode cX7_init 12 = .ok (.aload_n 0, 1) := by decide +kernel
theorem dX7_init_13 : decode cX7_init 13 = .ok (.new 13, 3) := by decide +kernel
theorem dX7_init_16 : decode cX7_init 16 = .ok (.dup, 1) := by decide +kernel
theorem dX7_init_17 : decode cX7_init 17 = .ok (.invokespecial 15, 3) := by decide +kernel
theorem dX7_init_20 : decode cX7_init 20 = .ok (.putfield 16, 3) := by decide +kernel
theorem dX7_init_23 : decode cX7_init 23 = .ok (.aload_n 0, 1) := by decide +kernel
theorem dX7_init_24 : decode cX7_init 24 = .ok (.new 13, 3) := by decide +kernel
theorem dX7_init_27 : decode cX7_init 27 = .ok (.dup, 1) := by decide +kernel
theorem dX7_init_28 : decode cX7_init 28 = .ok (.invokespecial 15, 3) := by decide +kernel
theorem dX7_init_31 : decode cX7_init 31 = .ok (.putfield 20, 3) := by decide +kernel
theorem dX7_init_34 : decode cX7_init 34 = .ok (.aload_n 0, 1) := by decide +kernel
theorem dX7_init_35 : decode cX7_init 35 = .ok (.iconst 2, 1) := by decide +kernel
theorem dX7_init_36 : decode cX7_init 36 = .ok (.anewarray 13, 3) := by decide +kernel
theorem dX7_init_39 : decode cX7_init 39 = .ok (.dup, 1) := by decide +kernel
theorem dX7_init_40 : decode cX7_init 40 = .ok (.iconst 0, 1) := by decide +kernel
theorem dX7_init_41 : decode cX7_init 41 = .ok (.new 13, 3) := by decide +kernel
theorem dX7_init_44 : decode cX7_init 44 = .ok (.dup, 1) := by decide +kernel
theorem dX7_init_45 : decode cX7_init 45 = .ok (.invokespecial 15, 3) := by decide +kernel
theorem dX7_init_48 : decode cX7_init 48 = .ok (.aastore, 1) := by decide +kernel
theorem dX7_init_49 : decode cX7_init 49 = .ok (.dup, 1) := by decide +kernel
theorem dX7_init_50 : decode cX7_init 50 = .ok (.iconst 1, 1) := by decide +kernel
theorem dX7_init_51 : decode cX7_init 51 = .ok (.new 13, 3) := by decide +kernel
theorem dX7_init_54 : decode cX7_init 54 = .ok (.dup, 1) := by decide +kernel
theorem dX7_init_55 : decode cX7_init 55 = .ok (.invokespecial 15, 3) := by decide +kernel
theorem dX7_init_58 : decode cX7_init 58 = .ok (.aastore, 1) := by decide +kernel
theorem dX7_init_59 : decode cX7_init 59 = .ok (.putfield 23, 3) := by decide +kernel
theorem dX7_init_62 : decode cX7_init 62 = .ok (.aload_n 0, 1) := by decide +kernel
theorem dX7_init_63 : decode cX7_init 63 = .ok (.iconst 2, 1) := by decide +kernel
theorem dX7_init_64 : decode cX7_init 64 = .ok (.newarray .boolean, 2) := by decide +kernel
theorem dX7_init_66 : decode cX7_init 66 = .ok (.putfield 27, 3) := by decide +kernel
theorem dX7_init_69 : decode cX7_init 69 = .ok (.aload_n 0, 1) := by decide +kernel
theorem dX7_init_70 : decode cX7_init 70 = .ok (.new 31, 3) := by decide +kernel
theorem dX7_init_73 : decode cX7_init 73 = .ok (.dup, 1) := by decide +kernel
theorem dX7_init_74 : decode cX7_init 74 = .ok (.invokespecial 33, 3) := by decide +kernel
theorem dX7_init_77 : decode cX7_init 77 = .ok (.putfield 34, 3) := by decide +kernel
theorem dX7_init_80 : decode cX7_init 80 = .ok (.aload_n 0, 1) := by decide +kernel
theorem dX7_init_81 : decode cX7_init 81 = .ok (.new 38, 3) := by decide +kernel
theorem dX7_init_84 : decode cX7_init 84 = .ok (.dup, 1) := by decide +kernel
theorem dX7_init_85 : decode cX7_init 85 = .ok (.invokespecial 40, 3) := by decide +kernel
theorem dX7_init_88 : decode cX7_init 88 = .ok (.putfield 41, 3) := by decide +kernel
theorem dX7_init_91 : decode cX7_init 91 = .ok (.aload_n 0, 1) := by decide +kernel
theorem dX7_init_92 : decode cX7_init 92 = .ok (.new 45, 3) := by decide +kernel
theorem dX7_init_95 : decode cX7_init 95 = .ok (.dup, 1) := by decide +kernel
theorem dX7_init_96 : decode cX7_init 96 = .ok (.invokespecial 47, 3) := by decide +kernel
theorem dX7_init_99 : decode cX7_init 99 = .ok (.putfield 48, 3) := by decide +kernel
theorem dX7_init_102 : decode cX7_init 102 = .ok (.aload_n 0, 1) := by decide +kernel
theorem dX7_init_103 : decode cX7_init 103 = .ok (.new 52, 3) := by decide +kernel
theorem dX7_init_106 : decode cX7_init 106 = .ok (.dup, 1) := by decide +kernel
theorem dX7_init_107 : decode cX7_init 107 = .ok (.invokespecial 54, 3) := by decide +kernel
theorem dX7_init_110 : decode cX7_init 110 = .ok (.putfield 55, 3) := by decide +kernel
theorem dX7_init_113 : decode cX7_init 113 = .ok (.aload_n 0, 1) := by decide +kernel
theorem dX7_init_114 : decode cX7_init 114 = .ok (.new 59, 3) := by decide +kernel
theorem dX7_init_117 : decode cX7_init 117 = .ok (.dup, 1) := by decide +kernel
theorem dX7_init_118 : decode cX7_init 118 = .ok (.invokespecial 61, 3) := by decide +kernel
theorem dX7_init_121 : decode cX7_init 121 = .ok (.putfield 62, 3) := by decide +kernel
theorem dX7_init_124 : decode cX7_init 124 = .ok (.aload_n 0, 1) := by decide +kernel
theorem dX7_init_125 : decode cX7_init 125 = .ok (.new 66, 3) := by decide +kernel
theorem dX7_init_128 : decode cX7_init 128 = .ok (.dup, 1) := by decide +kernel
theorem dX7_init_129 : decode cX7_init 129 = .ok (.invokespecial 68, 3) := by decide +kernel
theorem dX7_init_132 : decode cX7_init 132 = .ok (.putfield 69, 3) := by decide +kernel
theorem dX7_init_135 : decode cX7_init 135 = .ok (.return_, 1) := by decide +kernel
theorem dX7_write_0 : decode cX7_write 0 = .ok (.iload_n 1, 1) := by decide +kernel
theorem dX7_write_1 : decode cX7_write 1 = .ok (.ifCond .lt 10, 3) := by decide +kernel
theorem dX7_write_4 : decode cX7_write 4 = .ok (.iload_n 1, 1) := by decide +kernel
theorem dX7_write_5 : decode cX7_write 5 = .ok (.sipush 255, 3) := by decide +kernel
theorem dX7_write_8 : decode cX7_write 8 = .ok (.if_icmp .le 6, 3) := by decide +kernel
theorem dX7_write_11 : decode cX7_write 11 = .ok (.bipush (-2), 2) := by decide +kernel
theorem dX7_write_13 : decode cX7_write 13 = .ok (.ireturn, 1) := by decide +kernel
theorem dX7_write_14 : decode cX7_write 14 = .ok (.aload_n 0, 1) := by decide +kernel
theorem dX7_write_15 : decode cX7_write 15 = .ok (.getfield 73, 3) := by decide +kernel
theorem dX7_write_18 : decode cX7_write 18 = .ok (.ifCond .lt 12, 3) := by decide +kernel
theorem dX7_write_21 : decode cX7_write 21 = .ok (.aload_n 0, 1) := by decide +kernel
theorem dX7_write_22 : decode cX7_write 22 = .ok (.getfield 73, 3) := by decide +kernel
theorem dX7_write_25 : decode cX7_write 25 = .ok (.bipush 64, 2) := by decide +kernel
theorem dX7_write_27 : decode cX7_write 27 = .ok (.if_icmp .lt 6, 3) := by decide +kernel
theorem dX7_write_30 : decode cX7_write 30 = .ok (.bipush (-4), 2) := by decide +kernel
theorem dX7_write_32 : decode cX7_write 32 = .ok (.ireturn, 1) := by decide +kernel
theorem dX7_write_33 : decode cX7_write 33 = .ok (.aload_n 0, 1) := by decide +kernel
theorem dX7_write_34 : decode cX7_write 34 = .ok (.getfield 9, 3) := by decide +kernel
theorem dX7_write_37 : decode cX7_write 37 = .ok (.aload_n 0, 1) := by decide +kernel
theorem dX7_write_38 : decode cX7_write 38 = .ok (.getfield 73, 3) := by decide +kernel
theorem dX7_write_41 : decode cX7_write 41 = .ok (.iload_n 1, 1) := by decide +kernel
theorem dX7_write_42 : decode cX7_write 42 = .ok (.iastore, 1) := by decide +kernel
theorem dX7_write_43 : decode cX7_write 43 = .ok (.aload_n 0, 1) := by decide +kernel
theorem dX7_write_44 : decode cX7_write 44 = .ok (.dup, 1) := by decide +kernel
theorem dX7_write_45 : decode cX7_write 45 = .ok (.getfield 73, 3) := by decide +kernel
theorem dX7_write_48 : decode cX7_write 48 = .ok (.iconst 1, 1) := by decide +kernel
theorem dX7_write_49 : decode cX7_write 49 = .ok (.iadd, 1) := by decide +kernel
theorem dX7_write_50 : decode cX7_write 50 = .ok (.putfield 73, 3) := by decide +kernel
theorem dX7_write_53 : decode cX7_write 53 = .ok (.aload_n 0, 1) := by decide +kernel
theorem dX7_write_54 : decode cX7_write 54 = .ok (.getfield 73, 3) := by decide +kernel
theorem dX7_write_57 : decode cX7_write 57 = .ok (.ireturn, 1) := by decide +kernel
theorem dX7_wipe_0 : decode cX7_wipe 0 = .ok (.aload_n 0, 1) := by decide +kernel
theorem dX7_wipe_1 : decode cX7_wipe 1 = .ok (.getfield 73, 3) := by decide +kernel
theorem dX7_wipe_4 : decode cX7_wipe 4 = .ok (.istore_n 1, 1) := by decide +kernel
theorem dX7_wipe_5 : decode cX7_wipe 5 = .ok (.aload_n 0, 1) := by decide +kernel
theorem dX7_wipe_6 : decode cX7_wipe 6 = .ok (.iconst 0, 1) := by decide +kernel
theorem dX7_wipe_7 : decode cX7_wipe 7 = .ok (.putfield 73, 3) := by decide +kernel
theorem dX7_wipe_10 : decode cX7_wipe 10 = .ok (.iload_n 1, 1) := by decide +kernel
theorem dX7_wipe_11 : decode cX7_wipe 11 = .ok (.ireturn, 1) := by decide +kernel
theorem dX7_fault_0 : decode cX7_fault 0 = .ok (.aload_n 0, 1) := by decide +kernel
theorem dX7_fault_1 : decode cX7_fault 1 = .ok (.getfield 34, 3) := by decide +kernel
theorem dX7_fault_4 : decode cX7_fault 4 = .ok (.aload_n 0, 1) := by decide +kernel
theorem dX7_fault_5 : decode cX7_fault 5 = .ok (.getfield 9, 3) := by decide +kernel
theorem dX7_fault_8 : decode cX7_fault 8 = .ok (.aload_n 0, 1) := by decide +kernel
theorem dX7_fault_9 : decode cX7_fault 9 = .ok (.getfield 73, 3) := by decide +kernel
theorem dX7_fault_12 : decode cX7_fault 12 = .ok (.aload_n 0, 1) := by decide +kernel
theorem dX7_fault_13 : decode cX7_fault 13 = .ok (.getfield 20, 3) := by decide +kernel
theorem dX7_fault_16 : decode cX7_fault 16 = .ok (.invokevirtual 77, 3) := by decide +kernel
theorem dX7_fault_19 : decode cX7_fault 19 = .ok (.ireturn, 1) := by decide +kernel
theorem dX7_net_0 : decode cX7_net 0 = .ok (.aload_n 0, 1) := by decide +kernel
theorem dX7_net_1 : decode cX7_net 1 = .ok (.getfield 34, 3) := by decide +kernel
theorem dX7_net_4 : decode cX7_net 4 = .ok (.aload_n 0, 1) := by decide +kernel
theorem dX7_net_5 : decode cX7_net 5 = .ok (.getfield 9, 3) := by decide +kernel
theorem dX7_net_8 : decode cX7_net 8 = .ok (.aload_n 0, 1) := by decide +kernel
theorem dX7_net_9 : decode cX7_net 9 = .ok (.getfield 73, 3) := by decide +kernel
theorem dX7_net_12 : decode cX7_net 12 = .ok (.aload_n 0, 1) := by decide +kernel
theorem dX7_net_13 : decode cX7_net 13 = .ok (.getfield 20, 3) := by decide +kernel
theorem dX7_net_16 : decode cX7_net 16 = .ok (.invokevirtual 77, 3) := by decide +kernel
theorem dX7_net_19 : decode cX7_net 19 = .ok (.bipush (-9), 2) := by decide +kernel
theorem dX7_net_21 : decode cX7_net 21 = .ok (.if_icmp .eq 6, 3) := by decide +kernel
theorem dX7_net_24 : decode cX7_net 24 = .ok (.bipush (-3), 2) := by decide +kernel
theorem dX7_net_26 : decode cX7_net 26 = .ok (.ireturn, 1) := by decide +kernel
theorem dX7_net_27 : decode cX7_net 27 = .ok (.aload_n 0, 1) := by decide +kernel
theorem dX7_net_28 : decode cX7_net 28 = .ok (.getfield 16, 3) := by decide +kernel
theorem dX7_net_31 : decode cX7_net 31 = .ok (.aload_n 0, 1) := by decide +kernel
theorem dX7_net_32 : decode cX7_net 32 = .ok (.getfield 20, 3) := by decide +kernel
theorem dX7_net_35 : decode cX7_net 35 = .ok (.invokevirtual 81, 3) := by decide +kernel
theorem dX7_net_38 : decode cX7_net 38 = .ok (.aload_n 0, 1) := by decide +kernel
theorem dX7_net_39 : decode cX7_net 39 = .ok (.getfield 41, 3) := by decide +kernel
theorem dX7_net_42 : decode cX7_net 42 = .ok (.invokevirtual 85, 3) := by decide +kernel
theorem dX7_net_45 : decode cX7_net 45 = .ok (.iconst 0, 1) := by decide +kernel
theorem dX7_net_46 : decode cX7_net 46 = .ok (.istore_n 1, 1) := by decide +kernel
theorem dX7_net_47 : decode cX7_net 47 = .ok (.iload_n 1, 1) := by decide +kernel
theorem dX7_net_48 : decode cX7_net 48 = .ok (.iconst 2, 1) := by decide +kernel
theorem dX7_net_49 : decode cX7_net 49 = .ok (.if_icmp .ge 16, 3) := by decide +kernel
theorem dX7_net_52 : decode cX7_net 52 = .ok (.aload_n 0, 1) := by decide +kernel
theorem dX7_net_53 : decode cX7_net 53 = .ok (.getfield 27, 3) := by decide +kernel
theorem dX7_net_56 : decode cX7_net 56 = .ok (.iload_n 1, 1) := by decide +kernel
theorem dX7_net_57 : decode cX7_net 57 = .ok (.iconst 0, 1) := by decide +kernel
theorem dX7_net_58 : decode cX7_net 58 = .ok (.bastore, 1) := by decide +kernel
theorem dX7_net_59 : decode cX7_net 59 = .ok (.iinc 1 1, 3) := by decide +kernel
theorem dX7_net_62 : decode cX7_net 62 = .ok (.goto (-15), 3) := by decide +kernel
theorem dX7_net_65 : decode cX7_net 65 = .ok (.aload_n 0, 1) := by decide +kernel
theorem dX7_net_66 : decode cX7_net 66 = .ok (.getfield 16, 3) := by decide +kernel
theorem dX7_net_69 : decode cX7_net 69 = .ok (.invokevirtual 88, 3) := by decide +kernel
theorem dX7_net_72 : decode cX7_net 72 = .ok (.ireturn, 1) := by decide +kernel
theorem dX7_about_0 : decode cX7_about 0 = .ok (.iload_n 1, 1) := by decide +kernel
theorem dX7_about_1 : decode cX7_about 1 = .ok (.tableswitch 122 0 9 #[55, 63, 71, 90, 90, 90, 96, 101, 109, 117], 55) := by decide +kernel
theorem dX7_about_56 : decode cX7_about 56 = .ok (.aload_n 0, 1) := by decide +kernel
theorem dX7_about_57 : decode cX7_about 57 = .ok (.getfield 16, 3) := by decide +kernel
theorem dX7_about_60 : decode cX7_about 60 = .ok (.getfield 92, 3) := by decide +kernel
theorem dX7_about_63 : decode cX7_about 63 = .ok (.ireturn, 1) := by decide +kernel
theorem dX7_about_64 : decode cX7_about 64 = .ok (.aload_n 0, 1) := by decide +kernel
theorem dX7_about_65 : decode cX7_about 65 = .ok (.getfield 16, 3) := by decide +kernel
theorem dX7_about_68 : decode cX7_about 68 = .ok (.invokevirtual 88, 3) := by decide +kernel
theorem dX7_about_71 : decode cX7_about 71 = .ok (.ireturn, 1) := by decide +kernel
theorem dX7_about_72 : decode cX7_about 72 = .ok (.aload_n 0, 1) := by decide +kernel
theorem dX7_about_73 : decode cX7_about 73 = .ok (.getfield 69, 3) := by decide +kernel
theorem dX7_about_76 : decode cX7_about 76 = .ok (.aload_n 0, 1) := by decide +kernel
theorem dX7_about_77 : decode cX7_about 77 = .ok (.getfield 16, 3) := by decide +kernel
theorem dX7_about_80 : decode cX7_about 80 = .ok (.invokevirtual 95, 3) := by decide +kernel
theorem dX7_about_83 : decode cX7_about 83 = .ok (.aload_n 0, 1) := by decide +kernel
theorem dX7_about_84 : decode cX7_about 84 = .ok (.getfield 69, 3) := by decide +kernel
theorem dX7_about_87 : decode cX7_about 87 = .ok (.getfield 98, 3) := by decide +kernel
theorem dX7_about_90 : decode cX7_about 90 = .ok (.ireturn, 1) := by decide +kernel
theorem dX7_about_91 : decode cX7_about 91 = .ok (.aload_n 0, 1) := by decide +kernel
theorem dX7_about_92 : decode cX7_about 92 = .ok (.iload_n 1, 1) := by decide +kernel
theorem dX7_about_93 : decode cX7_about 93 = .ok (.invokevirtual 101, 3) := by decide +kernel
theorem dX7_about_96 : decode cX7_about 96 = .ok (.ireturn, 1) := by decide +kernel
theorem dX7_about_97 : decode cX7_about 97 = .ok (.aload_n 0, 1) := by decide +kernel
theorem dX7_about_98 : decode cX7_about 98 = .ok (.invokevirtual 105, 3) := by decide +kernel
theorem dX7_about_101 : decode cX7_about 101 = .ok (.ireturn, 1) := by decide +kernel
theorem dX7_about_102 : decode cX7_about 102 = .ok (.aload_n 0, 1) := by decide +kernel
theorem dX7_about_103 : decode cX7_about 103 = .ok (.getfield 41, 3) := by decide +kernel
theorem dX7_about_106 : decode cX7_about 106 = .ok (.getfield 108, 3) := by decide +kernel
theorem dX7_about_109 : decode cX7_about 109 = .ok (.ireturn, 1) := by decide +kernel
theorem dX7_about_110 : decode cX7_about 110 = .ok (.aload_n 0, 1) := by decide +kernel
theorem dX7_about_111 : decode cX7_about 111 = .ok (.getfield 48, 3) := by decide +kernel
theorem dX7_about_114 : decode cX7_about 114 = .ok (.getfield 111, 3) := by decide +kernel
theorem dX7_about_117 : decode cX7_about 117 = .ok (.ireturn, 1) := by decide +kernel
theorem dX7_about_118 : decode cX7_about 118 = .ok (.aload_n 0, 1) := by decide +kernel
theorem dX7_about_119 : decode cX7_about 119 = .ok (.getfield 73, 3) := by decide +kernel
theorem dX7_about_122 : decode cX7_about 122 = .ok (.ireturn, 1) := by decide +kernel
theorem dX7_about_123 : decode cX7_about 123 = .ok (.bipush (-2), 2) := by decide +kernel
theorem dX7_about_125 : decode cX7_about 125 = .ok (.ireturn, 1) := by decide +kernel
theorem dX7_minutes_0 : decode cX7_minutes 0 = .ok (.aload_n 0, 1) := by decide +kernel
theorem dX7_minutes_1 : decode cX7_minutes 1 = .ok (.getfield 16, 3) := by decide +kernel
theorem dX7_minutes_4 : decode cX7_minutes 4 = .ok (.iload_n 1, 1) := by decide +kernel
theorem dX7_minutes_5 : decode cX7_minutes 5 = .ok (.invokevirtual 112, 3) := by decide +kernel
theorem dX7_minutes_8 : decode cX7_minutes 8 = .ok (.ifCond .eq 14, 3) := by decide +kernel
theorem dX7_minutes_11 : decode cX7_minutes 11 = .ok (.aload_n 0, 1) := by decide +kernel
theorem dX7_minutes_12 : decode cX7_minutes 12 = .ok (.getfield 16, 3) := by decide +kernel
theorem dX7_minutes_15 : decode cX7_minutes 15 = .ok (.iload_n 2, 1) := by decide +kernel
theorem dX7_minutes_16 : decode cX7_minutes 16 = .ok (.invokevirtual 112, 3) := by decide +kernel
theorem dX7_minutes_19 : decode cX7_minutes 19 = .ok (.ifCond .ne 5, 3) := by decide +kernel
theorem dX7_minutes_22 : decode cX7_minutes 22 = .ok (.iconst (-1), 1) := by decide +kernel
theorem dX7_minutes_23 : decode cX7_minutes 23 = .ok (.ireturn, 1) := by decide +kernel
theorem dX7_minutes_24 : decode cX7_minutes 24 = .ok (.aload_n 0, 1) := by decide +kernel
theorem dX7_minutes_25 : decode cX7_minutes 25 = .ok (.getfield 16, 3) := by decide +kernel
theorem dX7_minutes_28 : decode cX7_minutes 28 = .ok (.iload_n 1, 1) := by decide +kernel
theorem dX7_minutes_29 : decode cX7_minutes 29 = .ok (.iload_n 2, 1) := by decide +kernel
theorem dX7_minutes_30 : decode cX7_minutes 30 = .ok (.invokevirtual 116, 3) := by decide +kernel
theorem dX7_minutes_33 : decode cX7_minutes 33 = .ok (.ireturn, 1) := by decide +kernel
theorem dX7_put_0 : decode cX7_put 0 = .ok (.aload_n 0, 1) := by decide +kernel
theorem dX7_put_1 : decode cX7_put 1 = .ok (.getfield 16, 3) := by decide +kernel
theorem dX7_put_4 : decode cX7_put 4 = .ok (.iload_n 1, 1) := by decide +kernel
theorem dX7_put_5 : decode cX7_put 5 = .ok (.invokevirtual 112, 3) := by decide +kernel
theorem dX7_put_8 : decode cX7_put 8 = .ok (.ifCond .eq 14, 3) := by decide +kernel
theorem dX7_put_11 : decode cX7_put 11 = .ok (.aload_n 0, 1) := by decide +kernel
theorem dX7_put_12 : decode cX7_put 12 = .ok (.getfield 16, 3) := by decide +kernel
theorem dX7_put_15 : decode cX7_put 15 = .ok (.iload_n 2, 1) := by decide +kernel
theorem dX7_put_16 : decode cX7_put 16 = .ok (.invokevirtual 112, 3) := by decide +kernel
theorem dX7_put_19 : decode cX7_put 19 = .ok (.ifCond .ne 5, 3) := by decide +kernel
theorem dX7_put_22 : decode cX7_put 22 = .ok (.iconst (-1), 1) := by decide +kernel
theorem dX7_put_23 : decode cX7_put 23 = .ok (.ireturn, 1) := by decide +kernel
theorem dX7_put_24 : decode cX7_put 24 = .ok (.iload_n 3, 1) := by decide +kernel
theorem dX7_put_25 : decode cX7_put 25 = .ok (.ifCond .lt 9, 3) := by decide +kernel
theorem dX7_put_28 : decode cX7_put 28 = .ok (.iload_n 3, 1) := by decide +kernel
theorem dX7_put_29 : decode cX7_put 29 = .ok (.bipush 9, 2) := by decide +kernel
theorem dX7_put_31 : decode cX7_put 31 = .ok (.if_icmp .le 6, 3) := by decide +kernel
theorem dX7_put_34 : decode cX7_put 34 = .ok (.bipush (-2), 2) := by decide +kernel
theorem dX7_put_36 : decode cX7_put 36 = .ok (.ireturn, 1) := by decide +kernel
theorem dX7_put_37 : decode cX7_put 37 = .ok (.aload_n 0, 1) := by decide +kernel
theorem dX7_put_38 : decode cX7_put 38 = .ok (.getfield 16, 3) := by decide +kernel
theorem dX7_put_41 : decode cX7_put 41 = .ok (.iload_n 1, 1) := by decide +kernel
theorem dX7_put_42 : decode cX7_put 42 = .ok (.iload_n 2, 1) := by decide +kernel
theorem dX7_put_43 : decode cX7_put 43 = .ok (.invokevirtual 116, 3) := by decide +kernel
theorem dX7_put_46 : decode cX7_put 46 = .ok (.bipush (-9), 2) := by decide +kernel
theorem dX7_put_48 : decode cX7_put 48 = .ok (.if_icmp .eq 6, 3) := by decide +kernel
theorem dX7_put_51 : decode cX7_put 51 = .ok (.bipush (-3), 2) := by decide +kernel
theorem dX7_put_53 : decode cX7_put 53 = .ok (.ireturn, 1) := by decide +kernel
theorem dX7_put_54 : decode cX7_put 54 = .ok (.aload_n 0, 1) := by decide +kernel
theorem dX7_put_55 : decode cX7_put 55 = .ok (.iload_n 1, 1) := by decide +kernel
theorem dX7_put_56 : decode cX7_put 56 = .ok (.iload_n 2, 1) := by decide +kernel
theorem dX7_put_57 : decode cX7_put 57 = .ok (.iload_n 3, 1) := by decide +kernel
theorem dX7_put_58 : decode cX7_put 58 = .ok (.invokevirtual 120, 3) := by decide +kernel
theorem dX7_put_61 : decode cX7_put 61 = .ok (.pop, 1) := by decide +kernel
theorem dX7_put_62 : decode cX7_put 62 = .ok (.aload_n 0, 1) := by decide +kernel
theorem dX7_put_63 : decode cX7_put 63 = .ok (.getfield 16, 3) := by decide +kernel
theorem dX7_put_66 : decode cX7_put 66 = .ok (.invokevirtual 88, 3) := by decide +kernel
theorem dX7_put_69 : decode cX7_put 69 = .ok (.ireturn, 1) := by decide +kernel
theorem dX7_cut_0 : decode cX7_cut 0 = .ok (.aload_n 0, 1) := by decide +kernel
theorem dX7_cut_1 : decode cX7_cut 1 = .ok (.getfield 16, 3) := by decide +kernel
theorem dX7_cut_4 : decode cX7_cut 4 = .ok (.iload_n 1, 1) := by decide +kernel
theorem dX7_cut_5 : decode cX7_cut 5 = .ok (.invokevirtual 112, 3) := by decide +kernel
theorem dX7_cut_8 : decode cX7_cut 8 = .ok (.ifCond .eq 14, 3) := by decide +kernel
theorem dX7_cut_11 : decode cX7_cut 11 = .ok (.aload_n 0, 1) := by decide +kernel
theorem dX7_cut_12 : decode cX7_cut 12 = .ok (.getfield 16, 3) := by decide +kernel
theorem dX7_cut_15 : decode cX7_cut 15 = .ok (.iload_n 2, 1) := by decide +kernel
theorem dX7_cut_16 : decode cX7_cut 16 = .ok (.invokevirtual 112, 3) := by decide +kernel
theorem dX7_cut_19 : decode cX7_cut 19 = .ok (.ifCond .ne 5, 3) := by decide +kernel
theorem dX7_cut_22 : decode cX7_cut 22 = .ok (.iconst (-1), 1) := by decide +kernel
theorem dX7_cut_23 : decode cX7_cut 23 = .ok (.ireturn, 1) := by decide +kernel
theorem dX7_cut_24 : decode cX7_cut 24 = .ok (.aload_n 0, 1) := by decide +kernel
theorem dX7_cut_25 : decode cX7_cut 25 = .ok (.getfield 16, 3) := by decide +kernel
theorem dX7_cut_28 : decode cX7_cut 28 = .ok (.iload_n 1, 1) := by decide +kernel
theorem dX7_cut_29 : decode cX7_cut 29 = .ok (.iload_n 2, 1) := by decide +kernel
theorem dX7_cut_30 : decode cX7_cut 30 = .ok (.invokevirtual 116, 3) := by decide +kernel
theorem dX7_cut_33 : decode cX7_cut 33 = .ok (.bipush (-9), 2) := by decide +kernel
theorem dX7_cut_35 : decode cX7_cut 35 = .ok (.if_icmp .ne 6, 3) := by decide +kernel
theorem dX7_cut_38 : decode cX7_cut 38 = .ok (.bipush (-3), 2) := by decide +kernel
theorem dX7_cut_40 : decode cX7_cut 40 = .ok (.ireturn, 1) := by decide +kernel
theorem dX7_cut_41 : decode cX7_cut 41 = .ok (.aload_n 0, 1) := by decide +kernel
theorem dX7_cut_42 : decode cX7_cut 42 = .ok (.iload_n 1, 1) := by decide +kernel
theorem dX7_cut_43 : decode cX7_cut 43 = .ok (.iload_n 2, 1) := by decide +kernel
theorem dX7_cut_44 : decode cX7_cut 44 = .ok (.bipush (-9), 2) := by decide +kernel
theorem dX7_cut_46 : decode cX7_cut 46 = .ok (.invokevirtual 120, 3) := by decide +kernel
theorem dX7_cut_49 : decode cX7_cut 49 = .ok (.ireturn, 1) := by decide +kernel
theorem dX7_time_0 : decode cX7_time 0 = .ok (.aload_n 0, 1) := by decide +kernel
theorem dX7_time_1 : decode cX7_time 1 = .ok (.getfield 16, 3) := by decide +kernel
theorem dX7_time_4 : decode cX7_time 4 = .ok (.iload_n 1, 1) := by decide +kernel
theorem dX7_time_5 : decode cX7_time 5 = .ok (.invokevirtual 112, 3) := by decide +kernel
theorem dX7_time_8 : decode cX7_time 8 = .ok (.ifCond .eq 14, 3) := by decide +kernel
theorem dX7_time_11 : decode cX7_time 11 = .ok (.aload_n 0, 1) := by decide +kernel
theorem dX7_time_12 : decode cX7_time 12 = .ok (.getfield 16, 3) := by decide +kernel
theorem dX7_time_15 : decode cX7_time 15 = .ok (.iload_n 2, 1) := by decide +kernel
theorem dX7_time_16 : decode cX7_time 16 = .ok (.invokevirtual 112, 3) := by decide +kernel
theorem dX7_time_19 : decode cX7_time 19 = .ok (.ifCond .ne 5, 3) := by decide +kernel
theorem dX7_time_22 : decode cX7_time 22 = .ok (.iconst (-1), 1) := by decide +kernel
theorem dX7_time_23 : decode cX7_time 23 = .ok (.ireturn, 1) := by decide +kernel
theorem dX7_time_24 : decode cX7_time 24 = .ok (.iload_n 3, 1) := by decide +kernel
theorem dX7_time_25 : decode cX7_time 25 = .ok (.ifCond .lt 9, 3) := by decide +kernel
theorem dX7_time_28 : decode cX7_time 28 = .ok (.iload_n 3, 1) := by decide +kernel
theorem dX7_time_29 : decode cX7_time 29 = .ok (.bipush 9, 2) := by decide +kernel
theorem dX7_time_31 : decode cX7_time 31 = .ok (.if_icmp .le 6, 3) := by decide +kernel
theorem dX7_time_34 : decode cX7_time 34 = .ok (.bipush (-2), 2) := by decide +kernel
theorem dX7_time_36 : decode cX7_time 36 = .ok (.ireturn, 1) := by decide +kernel
theorem dX7_time_37 : decode cX7_time 37 = .ok (.aload_n 0, 1) := by decide +kernel
theorem dX7_time_38 : decode cX7_time 38 = .ok (.getfield 16, 3) := by decide +kernel
theorem dX7_time_41 : decode cX7_time 41 = .ok (.iload_n 1, 1) := by decide +kernel
theorem dX7_time_42 : decode cX7_time 42 = .ok (.iload_n 2, 1) := by decide +kernel
theorem dX7_time_43 : decode cX7_time 43 = .ok (.invokevirtual 116, 3) := by decide +kernel
theorem dX7_time_46 : decode cX7_time 46 = .ok (.bipush (-9), 2) := by decide +kernel
theorem dX7_time_48 : decode cX7_time 48 = .ok (.if_icmp .ne 6, 3) := by decide +kernel
theorem dX7_time_51 : decode cX7_time 51 = .ok (.bipush (-3), 2) := by decide +kernel
theorem dX7_time_53 : decode cX7_time 53 = .ok (.ireturn, 1) := by decide +kernel
theorem dX7_time_54 : decode cX7_time 54 = .ok (.aload_n 0, 1) := by decide +kernel
theorem dX7_time_55 : decode cX7_time 55 = .ok (.iload_n 1, 1) := by decide +kernel
theorem dX7_time_56 : decode cX7_time 56 = .ok (.iload_n 2, 1) := by decide +kernel
theorem dX7_time_57 : decode cX7_time 57 = .ok (.iload_n 3, 1) := by decide +kernel
theorem dX7_time_58 : decode cX7_time 58 = .ok (.invokevirtual 120, 3) := by decide +kernel
theorem dX7_time_61 : decode cX7_time 61 = .ok (.ireturn, 1) := by decide +kernel
theorem dX7_undo_0 : decode cX7_undo 0 = .ok (.aload_n 0, 1) := by decide +kernel
theorem dX7_undo_1 : decode cX7_undo 1 = .ok (.getfield 41, 3) := by decide +kernel
theorem dX7_undo_4 : decode cX7_undo 4 = .ok (.getfield 108, 3) := by decide +kernel
theorem dX7_undo_7 : decode cX7_undo 7 = .ok (.ifCond .ne 6, 3) := by decide +kernel
theorem dX7_undo_10 : decode cX7_undo 10 = .ok (.bipush (-3), 2) := by decide +kernel
theorem dX7_undo_12 : decode cX7_undo 12 = .ok (.ireturn, 1) := by decide +kernel
theorem dX7_undo_13 : decode cX7_undo 13 = .ok (.aload_n 0, 1) := by decide +kernel
theorem dX7_undo_14 : decode cX7_undo 14 = .ok (.getfield 41, 3) := by decide +kernel
theorem dX7_undo_17 : decode cX7_undo 17 = .ok (.aload_n 0, 1) := by decide +kernel
theorem dX7_undo_18 : decode cX7_undo 18 = .ok (.getfield 16, 3) := by decide +kernel
theorem dX7_undo_21 : decode cX7_undo 21 = .ok (.invokevirtual 124, 3) := by decide +kernel
theorem dX7_undo_24 : decode cX7_undo 24 = .ok (.aload_n 0, 1) := by decide +kernel
theorem dX7_undo_25 : decode cX7_undo 25 = .ok (.getfield 41, 3) := by decide +kernel
theorem dX7_undo_28 : decode cX7_undo 28 = .ok (.getfield 108, 3) := by decide +kernel
theorem dX7_undo_31 : decode cX7_undo 31 = .ok (.ireturn, 1) := by decide +kernel
theorem dX7_pace_0 : decode cX7_pace 0 = .ok (.aload_n 0, 1) := by decide +kernel
theorem dX7_pace_1 : decode cX7_pace 1 = .ok (.getfield 55, 3) := by decide +kernel
theorem dX7_pace_4 : decode cX7_pace 4 = .ok (.aload_n 0, 1) := by decide +kernel
theorem dX7_pace_5 : decode cX7_pace 5 = .ok (.getfield 16, 3) := by decide +kernel
theorem dX7_pace_8 : decode cX7_pace 8 = .ok (.invokevirtual 127, 3) := by decide +kernel
theorem dX7_pace_11 : decode cX7_pace 11 = .ok (.istore_n 2, 1) := by decide +kernel
theorem dX7_pace_12 : decode cX7_pace 12 = .ok (.iload_n 2, 1) := by decide +kernel
theorem dX7_pace_13 : decode cX7_pace 13 = .ok (.iconst (-1), 1) := by decide +kernel
theorem dX7_pace_14 : decode cX7_pace 14 = .ok (.if_icmp .ne 8, 3) := by decide +kernel
theorem dX7_pace_17 : decode cX7_pace 17 = .ok (.bipush (-9), 2) := by decide +kernel
theorem dX7_pace_19 : decode cX7_pace 19 = .ok (.goto 10, 3) := by decide +kernel
theorem dX7_pace_22 : decode cX7_pace 22 = .ok (.iload_n 2, 1) := by decide +kernel
theorem dX7_pace_23 : decode cX7_pace 23 = .ok (.bipush 60, 2) := by decide +kernel
theorem dX7_pace_25 : decode cX7_pace 25 = .ok (.iload_n 1, 1) := by decide +kernel
theorem dX7_pace_26 : decode cX7_pace 26 = .ok (.invokestatic 131, 3) := by decide +kernel
theorem dX7_pace_29 : decode cX7_pace 29 = .ok (.ireturn, 1) := by decide +kernel
theorem dX7_critical_0 : decode cX7_critical 0 = .ok (.aload_n 0, 1) := by decide +kernel
theorem dX7_critical_1 : decode cX7_critical 1 = .ok (.getfield 16, 3) := by decide +kernel
theorem dX7_critical_4 : decode cX7_critical 4 = .ok (.iload_n 1, 1) := by decide +kernel
theorem dX7_critical_5 : decode cX7_critical 5 = .ok (.invokevirtual 112, 3) := by decide +kernel
theorem dX7_critical_8 : decode cX7_critical 8 = .ok (.ifCond .eq 14, 3) := by decide +kernel
theorem dX7_critical_11 : decode cX7_critical 11 = .ok (.aload_n 0, 1) := by decide +kernel
theorem dX7_critical_12 : decode cX7_critical 12 = .ok (.getfield 16, 3) := by decide +kernel
theorem dX7_critical_15 : decode cX7_critical 15 = .ok (.iload_n 2, 1) := by decide +kernel
theorem dX7_critical_16 : decode cX7_critical 16 = .ok (.invokevirtual 112, 3) := by decide +kernel
theorem dX7_critical_19 : decode cX7_critical 19 = .ok (.ifCond .ne 5, 3) := by decide +kernel
theorem dX7_critical_22 : decode cX7_critical 22 = .ok (.iconst (-1), 1) := by decide +kernel
theorem dX7_critical_23 : decode cX7_critical 23 = .ok (.ireturn, 1) := by decide +kernel
theorem dX7_critical_24 : decode cX7_critical 24 = .ok (.aload_n 0, 1) := by decide +kernel
theorem dX7_critical_25 : decode cX7_critical 25 = .ok (.getfield 16, 3) := by decide +kernel
theorem dX7_critical_28 : decode cX7_critical 28 = .ok (.iload_n 1, 1) := by decide +kernel
theorem dX7_critical_29 : decode cX7_critical 29 = .ok (.iload_n 2, 1) := by decide +kernel
theorem dX7_critical_30 : decode cX7_critical 30 = .ok (.invokevirtual 116, 3) := by decide +kernel
theorem dX7_critical_33 : decode cX7_critical 33 = .ok (.bipush (-9), 2) := by decide +kernel
theorem dX7_critical_35 : decode cX7_critical 35 = .ok (.if_icmp .ne 6, 3) := by decide +kernel
theorem dX7_critical_38 : decode cX7_critical 38 = .ok (.bipush (-3), 2) := by decide +kernel
theorem dX7_critical_40 : decode cX7_critical 40 = .ok (.ireturn, 1) := by decide +kernel
theorem dX7_critical_41 : decode cX7_critical 41 = .ok (.aload_n 0, 1) := by decide +kernel
theorem dX7_critical_42 : decode cX7_critical 42 = .ok (.getfield 55, 3) := by decide +kernel
theorem dX7_critical_45 : decode cX7_critical 45 = .ok (.aload_n 0, 1) := by decide +kernel
theorem dX7_critical_46 : decode cX7_critical 46 = .ok (.getfield 16, 3) := by decide +kernel
theorem dX7_critical_49 : decode cX7_critical 49 = .ok (.invokevirtual 135, 3) := by decide +kernel
theorem dX7_critical_52 : decode cX7_critical 52 = .ok (.aload_n 0, 1) := by decide +kernel
theorem dX7_critical_53 : decode cX7_critical 53 = .ok (.getfield 55, 3) := by decide +kernel
theorem dX7_critical_56 : decode cX7_critical 56 = .ok (.aload_n 0, 1) := by decide +kernel
theorem dX7_critical_57 : decode cX7_critical 57 = .ok (.getfield 16, 3) := by decide +kernel
theorem dX7_critical_60 : decode cX7_critical 60 = .ok (.iload_n 1, 1) := by decide +kernel
theorem dX7_critical_61 : decode cX7_critical 61 = .ok (.iload_n 2, 1) := by decide +kernel
theorem dX7_critical_62 : decode cX7_critical 62 = .ok (.invokevirtual 138, 3) := by decide +kernel
theorem dX7_critical_65 : decode cX7_critical 65 = .ok (.ifCond .eq 7, 3) := by decide +kernel
theorem dX7_critical_68 : decode cX7_critical 68 = .ok (.iconst 1, 1) := by decide +kernel
theorem dX7_critical_69 : decode cX7_critical 69 = .ok (.goto 4, 3) := by decide +kernel
theorem dX7_critical_72 : decode cX7_critical 72 = .ok (.iconst 0, 1) := by decide +kernel
theorem dX7_critical_73 : decode cX7_critical 73 = .ok (.ireturn, 1) := by decide +kernel
theorem dX7_departs_0 : decode cX7_departs 0 = .ok (.aload_n 0, 1) := by decide +kernel
theorem dX7_departs_1 : decode cX7_departs 1 = .ok (.getfield 16, 3) := by decide +kernel
theorem dX7_departs_4 : decode cX7_departs 4 = .ok (.iload_n 1, 1) := by decide +kernel
theorem dX7_departs_5 : decode cX7_departs 5 = .ok (.invokevirtual 112, 3) := by decide +kernel
theorem dX7_departs_8 : decode cX7_departs 8 = .ok (.ifCond .ne 5, 3) := by decide +kernel
theorem dX7_departs_11 : decode cX7_departs 11 = .ok (.iconst (-1), 1) := by decide +kernel
theorem dX7_departs_12 : decode cX7_departs 12 = .ok (.ireturn, 1) := by decide +kernel
theorem dX7_departs_13 : decode cX7_departs 13 = .ok (.iload_n 2, 1) := by decide +kernel
theorem dX7_departs_14 : decode cX7_departs 14 = .ok (.ifCond .lt 9, 3) := by decide +kernel
theorem dX7_departs_17 : decode cX7_departs 17 = .ok (.iload_n 2, 1) := by decide +kernel
theorem dX7_departs_18 : decode cX7_departs 18 = .ok (.bipush 20, 2) := by decide +kernel
theorem dX7_departs_20 : decode cX7_departs 20 = .ok (.if_icmp .le 6, 3) := by decide +kernel
theorem dX7_departs_23 : decode cX7_departs 23 = .ok (.bipush (-2), 2) := by decide +kernel
theorem dX7_departs_25 : decode cX7_departs 25 = .ok (.ireturn, 1) := by decide +kernel
theorem dX7_departs_26 : decode cX7_departs 26 = .ok (.aload_n 0, 1) := by decide +kernel
theorem dX7_departs_27 : decode cX7_departs 27 = .ok (.getfield 55, 3) := by decide +kernel
theorem dX7_departs_30 : decode cX7_departs 30 = .ok (.aload_n 0, 1) := by decide +kernel
theorem dX7_departs_31 : decode cX7_departs 31 = .ok (.getfield 16, 3) := by decide +kernel
theorem dX7_departs_34 : decode cX7_departs 34 = .ok (.iload_n 2, 1) := by decide +kernel
theorem dX7_departs_35 : decode cX7_departs 35 = .ok (.invokevirtual 142, 3) := by decide +kernel
theorem dX7_departs_38 : decode cX7_departs 38 = .ok (.ifCond .ne 6, 3) := by decide +kernel
theorem dX7_departs_41 : decode cX7_departs 41 = .ok (.bipush (-3), 2) := by decide +kernel
theorem dX7_departs_43 : decode cX7_departs 43 = .ok (.ireturn, 1) := by decide +kernel
theorem dX7_departs_44 : decode cX7_departs 44 = .ok (.aload_n 0, 1) := by decide +kernel
theorem dX7_departs_45 : decode cX7_departs 45 = .ok (.getfield 62, 3) := by decide +kernel
theorem dX7_departs_48 : decode cX7_departs 48 = .ok (.aload_n 0, 1) := by decide +kernel
theorem dX7_departs_49 : decode cX7_departs 49 = .ok (.getfield 16, 3) := by decide +kernel
theorem dX7_departs_52 : decode cX7_departs 52 = .ok (.iload_n 2, 1) := by decide +kernel
theorem dX7_departs_53 : decode cX7_departs 53 = .ok (.invokevirtual 146, 3) := by decide +kernel
theorem dX7_departs_56 : decode cX7_departs 56 = .ok (.aload_n 0, 1) := by decide +kernel
theorem dX7_departs_57 : decode cX7_departs 57 = .ok (.getfield 62, 3) := by decide +kernel
theorem dX7_departs_60 : decode cX7_departs 60 = .ok (.iload_n 1, 1) := by decide +kernel
theorem dX7_departs_61 : decode cX7_departs 61 = .ok (.invokevirtual 150, 3) := by decide +kernel
theorem dX7_departs_64 : decode cX7_departs 64 = .ok (.ireturn, 1) := by decide +kernel
theorem dX7_spare_0 : decode cX7_spare 0 = .ok (.aload_n 0, 1) := by decide +kernel
theorem dX7_spare_1 : decode cX7_spare 1 = .ok (.getfield 16, 3) := by decide +kernel
theorem dX7_spare_4 : decode cX7_spare 4 = .ok (.iload_n 1, 1) := by decide +kernel
theorem dX7_spare_5 : decode cX7_spare 5 = .ok (.invokevirtual 112, 3) := by decide +kernel
theorem dX7_spare_8 : decode cX7_spare 8 = .ok (.ifCond .eq 14, 3) := by decide +kernel
theorem dX7_spare_11 : decode cX7_spare 11 = .ok (.aload_n 0, 1) := by decide +kernel
theorem dX7_spare_12 : decode cX7_spare 12 = .ok (.getfield 16, 3) := by decide +kernel
theorem dX7_spare_15 : decode cX7_spare 15 = .ok (.iload_n 2, 1) := by decide +kernel
theorem dX7_spare_16 : decode cX7_spare 16 = .ok (.invokevirtual 112, 3) := by decide +kernel
theorem dX7_spare_19 : decode cX7_spare 19 = .ok (.ifCond .ne 5, 3) := by decide +kernel
theorem dX7_spare_22 : decode cX7_spare 22 = .ok (.iconst (-1), 1) := by decide +kernel
theorem dX7_spare_23 : decode cX7_spare 23 = .ok (.ireturn, 1) := by decide +kernel
theorem dX7_spare_24 : decode cX7_spare 24 = .ok (.iload_n 3, 1) := by decide +kernel
theorem dX7_spare_25 : decode cX7_spare 25 = .ok (.ifCond .lt 9, 3) := by decide +kernel
theorem dX7_spare_28 : decode cX7_spare 28 = .ok (.iload_n 3, 1) := by decide +kernel
theorem dX7_spare_29 : decode cX7_spare 29 = .ok (.bipush 20, 2) := by decide +kernel
theorem dX7_spare_31 : decode cX7_spare 31 = .ok (.if_icmp .le 6, 3) := by decide +kernel
theorem dX7_spare_34 : decode cX7_spare 34 = .ok (.bipush (-2), 2) := by decide +kernel
theorem dX7_spare_36 : decode cX7_spare 36 = .ok (.ireturn, 1) := by decide +kernel
theorem dX7_spare_37 : decode cX7_spare 37 = .ok (.aload_n 0, 1) := by decide +kernel
theorem dX7_spare_38 : decode cX7_spare 38 = .ok (.getfield 16, 3) := by decide +kernel
theorem dX7_spare_41 : decode cX7_spare 41 = .ok (.iload_n 1, 1) := by decide +kernel
theorem dX7_spare_42 : decode cX7_spare 42 = .ok (.iload_n 2, 1) := by decide +kernel
theorem dX7_spare_43 : decode cX7_spare 43 = .ok (.invokevirtual 116, 3) := by decide +kernel
theorem dX7_spare_46 : decode cX7_spare 46 = .ok (.bipush (-9), 2) := by decide +kernel
theorem dX7_spare_48 : decode cX7_spare 48 = .ok (.if_icmp .eq 18, 3) := by decide +kernel
theorem dX7_spare_51 : decode cX7_spare 51 = .ok (.aload_n 0, 1) := by decide +kernel
theorem dX7_spare_52 : decode cX7_spare 52 = .ok (.getfield 55, 3) := by decide +kernel
theorem dX7_spare_55 : decode cX7_spare 55 = .ok (.aload_n 0, 1) := by decide +kernel
theorem dX7_spare_56 : decode cX7_spare 56 = .ok (.getfield 16, 3) := by decide +kernel
theorem dX7_spare_59 : decode cX7_spare 59 = .ok (.iload_n 3, 1) := by decide +kernel
theorem dX7_spare_60 : decode cX7_spare 60 = .ok (.invokevirtual 142, 3) := by decide +kernel
theorem dX7_spare_63 : decode cX7_spare 63 = .ok (.ifCond .ne 6, 3) := by decide +kernel
theorem dX7_spare_66 : decode cX7_spare 66 = .ok (.bipush (-3), 2) := by decide +kernel
theorem dX7_spare_68 : decode cX7_spare 68 = .ok (.ireturn, 1) := by decide +kernel
theorem dX7_spare_69 : decode cX7_spare 69 = .ok (.aload_n 0, 1) := by decide +kernel
theorem dX7_spare_70 : decode cX7_spare 70 = .ok (.getfield 62, 3) := by decide +kernel
theorem dX7_spare_73 : decode cX7_spare 73 = .ok (.aload_n 0, 1) := by decide +kernel
theorem dX7_spare_74 : decode cX7_spare 74 = .ok (.getfield 16, 3) := by decide +kernel
theorem dX7_spare_77 : decode cX7_spare 77 = .ok (.iload_n 3, 1) := by decide +kernel
theorem dX7_spare_78 : decode cX7_spare 78 = .ok (.invokevirtual 146, 3) := by decide +kernel
theorem dX7_spare_81 : decode cX7_spare 81 = .ok (.aload_n 0, 1) := by decide +kernel
theorem dX7_spare_82 : decode cX7_spare 82 = .ok (.getfield 62, 3) := by decide +kernel
theorem dX7_spare_85 : decode cX7_spare 85 = .ok (.aload_n 0, 1) := by decide +kernel
theorem dX7_spare_86 : decode cX7_spare 86 = .ok (.getfield 16, 3) := by decide +kernel
theorem dX7_spare_89 : decode cX7_spare 89 = .ok (.iload_n 1, 1) := by decide +kernel
theorem dX7_spare_90 : decode cX7_spare 90 = .ok (.iload_n 2, 1) := by decide +kernel
theorem dX7_spare_91 : decode cX7_spare 91 = .ok (.invokevirtual 153, 3) := by decide +kernel
theorem dX7_spare_94 : decode cX7_spare 94 = .ok (.ireturn, 1) := by decide +kernel
theorem dX7_late_0 : decode cX7_late 0 = .ok (.aload_n 0, 1) := by decide +kernel
theorem dX7_late_1 : decode cX7_late 1 = .ok (.getfield 16, 3) := by decide +kernel
theorem dX7_late_4 : decode cX7_late 4 = .ok (.iload_n 1, 1) := by decide +kernel
theorem dX7_late_5 : decode cX7_late 5 = .ok (.invokevirtual 112, 3) := by decide +kernel
theorem dX7_late_8 : decode cX7_late 8 = .ok (.ifCond .eq 15, 3) := by decide +kernel
theorem dX7_late_11 : decode cX7_late 11 = .ok (.aload_n 0, 1) := by decide +kernel
theorem dX7_late_12 : decode cX7_late 12 = .ok (.getfield 16, 3) := by decide +kernel
theorem dX7_late_15 : decode cX7_late 15 = .ok (.iload 4, 2) := by decide +kernel
theorem dX7_late_17 : decode cX7_late 17 = .ok (.invokevirtual 112, 3) := by decide +kernel
theorem dX7_late_20 : decode cX7_late 20 = .ok (.ifCond .ne 5, 3) := by decide +kernel
theorem dX7_late_23 : decode cX7_late 23 = .ok (.iconst (-1), 1) := by decide +kernel
theorem dX7_late_24 : decode cX7_late 24 = .ok (.ireturn, 1) := by decide +kernel
theorem dX7_late_25 : decode cX7_late 25 = .ok (.iload_n 2, 1) := by decide +kernel
theorem dX7_late_26 : decode cX7_late 26 = .ok (.iconst 1, 1) := by decide +kernel
theorem dX7_late_27 : decode cX7_late 27 = .ok (.if_icmp .lt 19, 3) := by decide +kernel
theorem dX7_late_30 : decode cX7_late 30 = .ok (.iload_n 2, 1) := by decide +kernel
theorem dX7_late_31 : decode cX7_late 31 = .ok (.bipush 30, 2) := by decide +kernel
theorem dX7_late_33 : decode cX7_late 33 = .ok (.if_icmp .gt 13, 3) := by decide +kernel
theorem dX7_late_36 : decode cX7_late 36 = .ok (.iload_n 3, 1) := by decide +kernel
theorem dX7_late_37 : decode cX7_late 37 = .ok (.ifCond .lt 9, 3) := by decide +kernel
theorem dX7_late_40 : decode cX7_late 40 = .ok (.iload_n 3, 1) := by decide +kernel
theorem dX7_late_41 : decode cX7_late 41 = .ok (.bipush 20, 2) := by decide +kernel
theorem dX7_late_43 : decode cX7_late 43 = .ok (.if_icmp .le 6, 3) := by decide +kernel
theorem dX7_late_46 : decode cX7_late 46 = .ok (.bipush (-2), 2) := by decide +kernel
theorem dX7_late_48 : decode cX7_late 48 = .ok (.ireturn, 1) := by decide +kernel
theorem dX7_late_49 : decode cX7_late 49 = .ok (.iload 5, 2) := by decide +kernel
theorem dX7_late_51 : decode cX7_late 51 = .ok (.ifCond .lt 10, 3) := by decide +kernel
theorem dX7_late_54 : decode cX7_late 54 = .ok (.iload 5, 2) := by decide +kernel
theorem dX7_late_56 : decode cX7_late 56 = .ok (.bipush 40, 2) := by decide +kernel
theorem dX7_late_58 : decode cX7_late 58 = .ok (.if_icmp .le 6, 3) := by decide +kernel
theorem dX7_late_61 : decode cX7_late 61 = .ok (.bipush (-2), 2) := by decide +kernel
theorem dX7_late_63 : decode cX7_late 63 = .ok (.ireturn, 1) := by decide +kernel
theorem dX7_late_64 : decode cX7_late 64 = .ok (.aload_n 0, 1) := by decide +kernel
theorem dX7_late_65 : decode cX7_late 65 = .ok (.getfield 55, 3) := by decide +kernel
theorem dX7_late_68 : decode cX7_late 68 = .ok (.aload_n 0, 1) := by decide +kernel
theorem dX7_late_69 : decode cX7_late 69 = .ok (.getfield 16, 3) := by decide +kernel
theorem dX7_late_72 : decode cX7_late 72 = .ok (.iload_n 3, 1) := by decide +kernel
theorem dX7_late_73 : decode cX7_late 73 = .ok (.invokevirtual 142, 3) := by decide +kernel
theorem dX7_late_76 : decode cX7_late 76 = .ok (.ifCond .ne 6, 3) := by decide +kernel
theorem dX7_late_79 : decode cX7_late 79 = .ok (.bipush (-3), 2) := by decide +kernel
theorem dX7_late_81 : decode cX7_late 81 = .ok (.ireturn, 1) := by decide +kernel
theorem dX7_late_82 : decode cX7_late 82 = .ok (.aload_n 0, 1) := by decide +kernel
theorem dX7_late_83 : decode cX7_late 83 = .ok (.getfield 62, 3) := by decide +kernel
theorem dX7_late_86 : decode cX7_late 86 = .ok (.aload_n 0, 1) := by decide +kernel
theorem dX7_late_87 : decode cX7_late 87 = .ok (.getfield 16, 3) := by decide +kernel
theorem dX7_late_90 : decode cX7_late 90 = .ok (.iload_n 3, 1) := by decide +kernel
theorem dX7_late_91 : decode cX7_late 91 = .ok (.invokevirtual 146, 3) := by decide +kernel
theorem dX7_late_94 : decode cX7_late 94 = .ok (.aload_n 0, 1) := by decide +kernel
theorem dX7_late_95 : decode cX7_late 95 = .ok (.getfield 62, 3) := by decide +kernel
theorem dX7_late_98 : decode cX7_late 98 = .ok (.aload_n 0, 1) := by decide +kernel
theorem dX7_late_99 : decode cX7_late 99 = .ok (.getfield 16, 3) := by decide +kernel
theorem dX7_late_102 : decode cX7_late 102 = .ok (.iload_n 1, 1) := by decide +kernel
theorem dX7_late_103 : decode cX7_late 103 = .ok (.iload 5, 2) := by decide +kernel
theorem dX7_late_105 : decode cX7_late 105 = .ok (.invokevirtual 157, 3) := by decide +kernel
theorem dX7_late_108 : decode cX7_late 108 = .ok (.aload_n 0, 1) := by decide +kernel
theorem dX7_late_109 : decode cX7_late 109 = .ok (.getfield 62, 3) := by decide +kernel
theorem dX7_late_112 : decode cX7_late 112 = .ok (.iload_n 2, 1) := by decide +kernel
theorem dX7_late_113 : decode cX7_late 113 = .ok (.iload 4, 2) := by decide +kernel
theorem dX7_late_115 : decode cX7_late 115 = .ok (.iload 5, 2) := by decide +kernel
theorem dX7_late_117 : decode cX7_late 117 = .ok (.invokevirtual 161, 3) := by decide +kernel
theorem dX7_late_120 : decode cX7_late 120 = .ok (.ireturn, 1) := by decide +kernel
theorem dX7_dies_0 : decode cX7_dies 0 = .ok (.aload_n 0, 1) := by decide +kernel
theorem dX7_dies_1 : decode cX7_dies 1 = .ok (.getfield 16, 3) := by decide +kernel
theorem dX7_dies_4 : decode cX7_dies 4 = .ok (.iload_n 1, 1) := by decide +kernel
theorem dX7_dies_5 : decode cX7_dies 5 = .ok (.invokevirtual 112, 3) := by decide +kernel
theorem dX7_dies_8 : decode cX7_dies 8 = .ok (.ifCond .ne 5, 3) := by decide +kernel
theorem dX7_dies_11 : decode cX7_dies 11 = .ok (.iconst (-1), 1) := by decide +kernel
theorem dX7_dies_12 : decode cX7_dies 12 = .ok (.ireturn, 1) := by decide +kernel
theorem dX7_dies_13 : decode cX7_dies 13 = .ok (.iload_n 2, 1) := by decide +kernel
theorem dX7_dies_14 : decode cX7_dies 14 = .ok (.iconst 1, 1) := by decide +kernel
theorem dX7_dies_15 : decode cX7_dies 15 = .ok (.if_icmp .lt 19, 3) := by decide +kernel
theorem dX7_dies_18 : decode cX7_dies 18 = .ok (.iload_n 2, 1) := by decide +kernel
theorem dX7_dies_19 : decode cX7_dies 19 = .ok (.bipush 30, 2) := by decide +kernel
theorem dX7_dies_21 : decode cX7_dies 21 = .ok (.if_icmp .gt 13, 3) := by decide +kernel
theorem dX7_dies_24 : decode cX7_dies 24 = .ok (.iload_n 3, 1) := by decide +kernel
theorem dX7_dies_25 : decode cX7_dies 25 = .ok (.ifCond .lt 9, 3) := by decide +kernel
theorem dX7_dies_28 : decode cX7_dies 28 = .ok (.iload_n 3, 1) := by decide +kernel
theorem dX7_dies_29 : decode cX7_dies 29 = .ok (.bipush 20, 2) := by decide +kernel
theorem dX7_dies_31 : decode cX7_dies 31 = .ok (.if_icmp .le 6, 3) := by decide +kernel
theorem dX7_dies_34 : decode cX7_dies 34 = .ok (.bipush (-2), 2) := by decide +kernel
theorem dX7_dies_36 : decode cX7_dies 36 = .ok (.ireturn, 1) := by decide +kernel
theorem dX7_dies_37 : decode cX7_dies 37 = .ok (.aload_n 0, 1) := by decide +kernel
theorem dX7_dies_38 : decode cX7_dies 38 = .ok (.getfield 55, 3) := by decide +kernel
theorem dX7_dies_41 : decode cX7_dies 41 = .ok (.aload_n 0, 1) := by decide +kernel
theorem dX7_dies_42 : decode cX7_dies 42 = .ok (.getfield 16, 3) := by decide +kernel
theorem dX7_dies_45 : decode cX7_dies 45 = .ok (.iload_n 3, 1) := by decide +kernel
theorem dX7_dies_46 : decode cX7_dies 46 = .ok (.invokevirtual 142, 3) := by decide +kernel
theorem dX7_dies_49 : decode cX7_dies 49 = .ok (.ifCond .ne 6, 3) := by decide +kernel
theorem dX7_dies_52 : decode cX7_dies 52 = .ok (.bipush (-3), 2) := by decide +kernel
theorem dX7_dies_54 : decode cX7_dies 54 = .ok (.ireturn, 1) := by decide +kernel
theorem dX7_dies_55 : decode cX7_dies 55 = .ok (.aload_n 0, 1) := by decide +kernel
theorem dX7_dies_56 : decode cX7_dies 56 = .ok (.aload_n 0, 1) := by decide +kernel
theorem dX7_dies_57 : decode cX7_dies 57 = .ok (.getfield 16, 3) := by decide +kernel
theorem dX7_dies_60 : decode cX7_dies 60 = .ok (.iload_n 1, 1) := by decide +kernel
theorem dX7_dies_61 : decode cX7_dies 61 = .ok (.iload_n 2, 1) := by decide +kernel
theorem dX7_dies_62 : decode cX7_dies 62 = .ok (.iload_n 3, 1) := by decide +kernel
theorem dX7_dies_63 : decode cX7_dies 63 = .ok (.invokevirtual 164, 3) := by decide +kernel
theorem dX7_dies_66 : decode cX7_dies 66 = .ok (.ireturn, 1) := by decide +kernel
theorem dX7_best_0 : decode cX7_best 0 = .ok (.iload_n 1, 1) := by decide +kernel
theorem dX7_best_1 : decode cX7_best 1 = .ok (.ifCond .eq 11, 3) := by decide +kernel
theorem dX7_best_4 : decode cX7_best 4 = .ok (.iload_n 1, 1) := by decide +kernel
theorem dX7_best_5 : decode cX7_best 5 = .ok (.iconst 1, 1) := by decide +kernel
theorem dX7_best_6 : decode cX7_best 6 = .ok (.if_icmp .eq 6, 3) := by decide +kernel
theorem dX7_best_9 : decode cX7_best 9 = .ok (.bipush (-2), 2) := by decide +kernel
theorem dX7_best_11 : decode cX7_best 11 = .ok (.ireturn, 1) := by decide +kernel
theorem dX7_best_12 : decode cX7_best 12 = .ok (.aload_n 0, 1) := by decide +kernel
theorem dX7_best_13 : decode cX7_best 13 = .ok (.getfield 20, 3) := by decide +kernel
theorem dX7_best_16 : decode cX7_best 16 = .ok (.aload_n 0, 1) := by decide +kernel
theorem dX7_best_17 : decode cX7_best 17 = .ok (.getfield 16, 3) := by decide +kernel
theorem dX7_best_20 : decode cX7_best 20 = .ok (.invokevirtual 81, 3) := by decide +kernel
theorem dX7_best_23 : decode cX7_best 23 = .ok (.bipush (-9), 2) := by decide +kernel
theorem dX7_best_25 : decode cX7_best 25 = .ok (.istore_n 2, 1) := by decide +kernel
theorem dX7_best_26 : decode cX7_best 26 = .ok (.ldc 168, 2) := by decide +kernel
theorem dX7_best_28 : decode cX7_best 28 = .ok (.istore_n 3, 1) := by decide +kernel
theorem dX7_best_29 : decode cX7_best 29 = .ok (.iconst 0, 1) := by decide +kernel
theorem dX7_best_30 : decode cX7_best 30 = .ok (.istore 4, 2) := by decide +kernel
theorem dX7_best_32 : decode cX7_best 32 = .ok (.iload 4, 2) := by decide +kernel
theorem dX7_best_34 : decode cX7_best 34 = .ok (.aload_n 0, 1) := by decide +kernel
theorem dX7_best_35 : decode cX7_best 35 = .ok (.getfield 16, 3) := by decide +kernel
theorem dX7_best_38 : decode cX7_best 38 = .ok (.getfield 92, 3) := by decide +kernel
theorem dX7_best_41 : decode cX7_best 41 = .ok (.if_icmp .ge 132, 3) := by decide +kernel
theorem dX7_best_44 : decode cX7_best 44 = .ok (.iconst 0, 1) := by decide +kernel
theorem dX7_best_45 : decode cX7_best 45 = .ok (.istore 5, 2) := by decide +kernel
theorem dX7_best_47 : decode cX7_best 47 = .ok (.iload 5, 2) := by decide +kernel
theorem dX7_best_49 : decode cX7_best 49 = .ok (.aload_n 0, 1) := by decide +kernel
theorem dX7_best_50 : decode cX7_best 50 = .ok (.getfield 16, 3) := by decide +kernel
theorem dX7_best_53 : decode cX7_best 53 = .ok (.getfield 92, 3) := by decide +kernel
theorem dX7_best_56 : decode cX7_best 56 = .ok (.if_icmp .ge 111, 3) := by decide +kernel
theorem dX7_best_59 : decode cX7_best 59 = .ok (.aload_n 0, 1) := by decide +kernel
theorem dX7_best_60 : decode cX7_best 60 = .ok (.getfield 16, 3) := by decide +kernel
theorem dX7_best_63 : decode cX7_best 63 = .ok (.iload 4, 2) := by decide +kernel
theorem dX7_best_65 : decode cX7_best 65 = .ok (.iload 5, 2) := by decide +kernel
theorem dX7_best_67 : decode cX7_best 67 = .ok (.invokevirtual 116, 3) := by decide +kernel
theorem dX7_best_70 : decode cX7_best 70 = .ok (.istore 6, 2) := by decide +kernel
theorem dX7_best_72 : decode cX7_best 72 = .ok (.iload 6, 2) := by decide +kernel
theorem dX7_best_74 : decode cX7_best 74 = .ok (.bipush (-9), 2) := by decide +kernel
theorem dX7_best_76 : decode cX7_best 76 = .ok (.if_icmp .eq 85, 3) := by decide +kernel
theorem dX7_best_79 : decode cX7_best 79 = .ok (.iload_n 1, 1) := by decide +kernel
theorem dX7_best_80 : decode cX7_best 80 = .ok (.ifCond .ne 11, 3) := by decide +kernel
theorem dX7_best_83 : decode cX7_best 83 = .ok (.iload 6, 2) := by decide +kernel
theorem dX7_best_85 : decode cX7_best 85 = .ok (.ifCond .ne 6, 3) := by decide +kernel
theorem dX7_best_88 : decode cX7_best 88 = .ok (.goto 73, 3) := by decide +kernel
theorem dX7_best_91 : decode cX7_best 91 = .ok (.aload_n 0, 1) := by decide +kernel
theorem dX7_best_92 : decode cX7_best 92 = .ok (.getfield 20, 3) := by decide +kernel
theorem dX7_best_95 : decode cX7_best 95 = .ok (.iload 4, 2) := by decide +kernel
theorem dX7_best_97 : decode cX7_best 97 = .ok (.iload 5, 2) := by decide +kernel
theorem dX7_best_99 : decode cX7_best 99 = .ok (.iload_n 1, 1) := by decide +kernel
theorem dX7_best_100 : decode cX7_best 100 = .ok (.ifCond .ne 10, 3) := by decide +kernel
theorem dX7_best_103 : decode cX7_best 103 = .ok (.iload 6, 2) := by decide +kernel
theorem dX7_best_105 : decode cX7_best 105 = .ok (.iconst 1, 1) := by decide +kernel
theorem dX7_best_106 : decode cX7_best 106 = .ok (.isub, 1) := by decide +kernel
theorem dX7_best_107 : decode cX7_best 107 = .ok (.goto 5, 3) := by decide +kernel
theorem dX7_best_110 : decode cX7_best 110 = .ok (.bipush (-9), 2) := by decide +kernel
theorem dX7_best_112 : decode cX7_best 112 = .ok (.invokevirtual 169, 3) := by decide +kernel
theorem dX7_best_115 : decode cX7_best 115 = .ok (.pop, 1) := by decide +kernel
theorem dX7_best_116 : decode cX7_best 116 = .ok (.aload_n 0, 1) := by decide +kernel
theorem dX7_best_117 : decode cX7_best 117 = .ok (.getfield 55, 3) := by decide +kernel
theorem dX7_best_120 : decode cX7_best 120 = .ok (.aload_n 0, 1) := by decide +kernel
theorem dX7_best_121 : decode cX7_best 121 = .ok (.getfield 20, 3) := by decide +kernel
theorem dX7_best_124 : decode cX7_best 124 = .ok (.invokevirtual 127, 3) := by decide +kernel
theorem dX7_best_127 : decode cX7_best 127 = .ok (.istore 7, 2) := by decide +kernel
theorem dX7_best_129 : decode cX7_best 129 = .ok (.aload_n 0, 1) := by decide +kernel
theorem dX7_best_130 : decode cX7_best 130 = .ok (.getfield 20, 3) := by decide +kernel
theorem dX7_best_133 : decode cX7_best 133 = .ok (.iload 4, 2) := by decide +kernel
theorem dX7_best_135 : decode cX7_best 135 = .ok (.iload 5, 2) := by decide +kernel
theorem dX7_best_137 : decode cX7_best 137 = .ok (.iload 6, 2) := by decide +kernel
theorem dX7_best_139 : decode cX7_best 139 = .ok (.invokevirtual 169, 3) := by decide +kernel
theorem dX7_best_142 : decode cX7_best 142 = .ok (.pop, 1) := by decide +kernel
theorem dX7_best_143 : decode cX7_best 143 = .ok (.iload 7, 2) := by decide +kernel
theorem dX7_best_145 : decode cX7_best 145 = .ok (.iload_n 3, 1) := by decide +kernel
theorem dX7_best_146 : decode cX7_best 146 = .ok (.if_icmp .ge 15, 3) := by decide +kernel
theorem dX7_best_149 : decode cX7_best 149 = .ok (.iload 7, 2) := by decide +kernel
theorem dX7_best_151 : decode cX7_best 151 = .ok (.istore_n 3, 1) := by decide +kernel
theorem dX7_best_152 : decode cX7_best 152 = .ok (.bipush 10, 2) := by decide +kernel
theorem dX7_best_154 : decode cX7_best 154 = .ok (.iload 4, 2) := by decide +kernel
theorem dX7_best_156 : decode cX7_best 156 = .ok (.imul, 1) := by decide +kernel
theorem dX7_best_157 : decode cX7_best 157 = .ok (.iload 5, 2) := by decide +kernel
theorem dX7_best_159 : decode cX7_best 159 = .ok (.iadd, 1) := by decide +kernel
theorem dX7_best_160 : decode cX7_best 160 = .ok (.istore_n 2, 1) := by decide +kernel
theorem dX7_best_161 : decode cX7_best 161 = .ok (.iinc 5 1, 3) := by decide +kernel
theorem dX7_best_164 : decode cX7_best 164 = .ok (.goto (-117), 3) := by decide +kernel
theorem dX7_best_167 : decode cX7_best 167 = .ok (.iinc 4 1, 3) := by decide +kernel
theorem dX7_best_170 : decode cX7_best 170 = .ok (.goto (-138), 3) := by decide +kernel
theorem dX7_best_173 : decode cX7_best 173 = .ok (.iload_n 2, 1) := by decide +kernel
theorem dX7_best_174 : decode cX7_best 174 = .ok (.ireturn, 1) := by decide +kernel
theorem dX7_judge_0 : decode cX7_judge 0 = .ok (.iload_n 1, 1) := by decide +kernel
theorem dX7_judge_1 : decode cX7_judge 1 = .ok (.iconst 1, 1) := by decide +kernel
theorem dX7_judge_2 : decode cX7_judge 2 = .ok (.if_icmp .lt 24, 3) := by decide +kernel
theorem dX7_judge_5 : decode cX7_judge 5 = .ok (.iload_n 1, 1) := by decide +kernel
theorem dX7_judge_6 : decode cX7_judge 6 = .ok (.iconst 4, 1) := by decide +kernel
theorem dX7_judge_7 : decode cX7_judge 7 = .ok (.if_icmp .gt 19, 3) := by decide +kernel
theorem dX7_judge_10 : decode cX7_judge 10 = .ok (.lload_n 2, 1) := by decide +kernel
theorem dX7_judge_11 : decode cX7_judge 11 = .ok (.lconst 0, 1) := by decide +kernel
theorem dX7_judge_12 : decode cX7_judge 12 = .ok (.lcmp, 1) := by decide +kernel
theorem dX7_judge_13 : decode cX7_judge 13 = .ok (.ifCond .lt 13, 3) := by decide +kernel
theorem dX7_judge_16 : decode cX7_judge 16 = .ok (.lload_n 2, 1) := by decide +kernel
theorem dX7_judge_17 : decode cX7_judge 17 = .ok (.getstatic 173, 3) := by decide +kernel
theorem dX7_judge_20 : decode cX7_judge 20 = .ok (.iload_n 1, 1) := by decide +kernel
theorem dX7_judge_21 : decode cX7_judge 21 = .ok (.laload, 1) := by decide +kernel
theorem dX7_judge_22 : decode cX7_judge 22 = .ok (.lcmp, 1) := by decide +kernel
theorem dX7_judge_23 : decode cX7_judge 23 = .ok (.ifCond .lt 6, 3) := by decide +kernel
theorem dX7_judge_26 : decode cX7_judge 26 = .ok (.bipush (-2), 2) := by decide +kernel
theorem dX7_judge_28 : decode cX7_judge 28 = .ok (.ireturn, 1) := by decide +kernel
theorem dX7_judge_29 : decode cX7_judge 29 = .ok (.aload_n 0, 1) := by decide +kernel
theorem dX7_judge_30 : decode cX7_judge 30 = .ok (.getfield 20, 3) := by decide +kernel
theorem dX7_judge_33 : decode cX7_judge 33 = .ok (.aload_n 0, 1) := by decide +kernel
theorem dX7_judge_34 : decode cX7_judge 34 = .ok (.getfield 16, 3) := by decide +kernel
theorem dX7_judge_37 : decode cX7_judge 37 = .ok (.invokevirtual 81, 3) := by decide +kernel
theorem dX7_judge_40 : decode cX7_judge 40 = .ok (.iconst 0, 1) := by decide +kernel
theorem dX7_judge_41 : decode cX7_judge 41 = .ok (.istore 4, 2) := by decide +kernel
theorem dX7_judge_43 : decode cX7_judge 43 = .ok (.iload 4, 2) := by decide +kernel
theorem dX7_judge_45 : decode cX7_judge 45 = .ok (.iload_n 1, 1) := by decide +kernel
theorem dX7_judge_46 : decode cX7_judge 46 = .ok (.if_icmp .ge 29, 3) := by decide +kernel
theorem dX7_judge_49 : decode cX7_judge 49 = .ok (.aload_n 0, 1) := by decide +kernel
theorem dX7_judge_50 : decode cX7_judge 50 = .ok (.lload_n 2, 1) := by decide +kernel
theorem dX7_judge_51 : decode cX7_judge 51 = .ok (.iload_n 1, 1) := by decide +kernel
theorem dX7_judge_52 : decode cX7_judge 52 = .ok (.iconst 1, 1) := by decide +kernel
theorem dX7_judge_53 : decode cX7_judge 53 = .ok (.isub, 1) := by decide +kernel
theorem dX7_judge_54 : decode cX7_judge 54 = .ok (.iload 4, 2) := by decide +kernel
theorem dX7_judge_56 : decode cX7_judge 56 = .ok (.isub, 1) := by decide +kernel
theorem dX7_judge_57 : decode cX7_judge 57 = .ok (.invokestatic 177, 3) := by decide +kernel
theorem dX7_judge_60 : decode cX7_judge 60 = .ok (.invokevirtual 181, 3) := by decide +kernel
theorem dX7_judge_63 : decode cX7_judge 63 = .ok (.ifCond .ne 6, 3) := by decide +kernel
theorem dX7_judge_66 : decode cX7_judge 66 = .ok (.iload 4, 2) := by decide +kernel
theorem dX7_judge_68 : decode cX7_judge 68 = .ok (.ireturn, 1) := by decide +kernel
theorem dX7_judge_69 : decode cX7_judge 69 = .ok (.iinc 4 1, 3) := by decide +kernel
theorem dX7_judge_72 : decode cX7_judge 72 = .ok (.goto (-29), 3) := by decide +kernel
theorem dX7_judge_75 : decode cX7_judge 75 = .ok (.bipush (-9), 2) := by decide +kernel
theorem dX7_judge_77 : decode cX7_judge 77 = .ok (.ireturn, 1) := by decide +kernel
theorem dX7_share_0 : decode cX7_share 0 = .ok (.aload_n 0, 1) := by decide +kernel
theorem dX7_share_1 : decode cX7_share 1 = .ok (.getfield 16, 3) := by decide +kernel
theorem dX7_share_4 : decode cX7_share 4 = .ok (.iload_n 1, 1) := by decide +kernel
theorem dX7_share_5 : decode cX7_share 5 = .ok (.invokevirtual 112, 3) := by decide +kernel
theorem dX7_share_8 : decode cX7_share 8 = .ok (.ifCond .ne 5, 3) := by decide +kernel
theorem dX7_share_11 : decode cX7_share 11 = .ok (.iconst (-1), 1) := by decide +kernel
theorem dX7_share_12 : decode cX7_share 12 = .ok (.ireturn, 1) := by decide +kernel
theorem dX7_share_13 : decode cX7_share 13 = .ok (.aload_n 0, 1) := by decide +kernel
theorem dX7_share_14 : decode cX7_share 14 = .ok (.getfield 69, 3) := by decide +kernel
theorem dX7_share_17 : decode cX7_share 17 = .ok (.aload_n 0, 1) := by decide +kernel
theorem dX7_share_18 : decode cX7_share 18 = .ok (.getfield 16, 3) := by decide +kernel
theorem dX7_share_21 : decode cX7_share 21 = .ok (.invokevirtual 95, 3) := by decide +kernel
theorem dX7_share_24 : decode cX7_share 24 = .ok (.getstatic 184, 3) := by decide +kernel
theorem dX7_share_27 : decode cX7_share 27 = .ok (.aload_n 0, 1) := by decide +kernel
theorem dX7_share_28 : decode cX7_share 28 = .ok (.getfield 16, 3) := by decide +kernel
theorem dX7_share_31 : decode cX7_share 31 = .ok (.getfield 92, 3) := by decide +kernel
theorem dX7_share_34 : decode cX7_share 34 = .ok (.iaload, 1) := by decide +kernel
theorem dX7_share_35 : decode cX7_share 35 = .ok (.istore_n 3, 1) := by decide +kernel
theorem dX7_share_36 : decode cX7_share 36 = .ok (.aload_n 0, 1) := by decide +kernel
theorem dX7_share_37 : decode cX7_share 37 = .ok (.getfield 69, 3) := by decide +kernel
theorem dX7_share_40 : decode cX7_share 40 = .ok (.iload_n 1, 1) := by decide +kernel
theorem dX7_share_41 : decode cX7_share 41 = .ok (.aload_n 0, 1) := by decide +kernel
theorem dX7_share_42 : decode cX7_share 42 = .ok (.getfield 16, 3) := by decide +kernel
theorem dX7_share_45 : decode cX7_share 45 = .ok (.getfield 92, 3) := by decide +kernel
theorem dX7_share_48 : decode cX7_share 48 = .ok (.invokevirtual 187, 3) := by decide +kernel
theorem dX7_share_51 : decode cX7_share 51 = .ok (.iload_n 3, 1) := by decide +kernel
theorem dX7_share_52 : decode cX7_share 52 = .ok (.bipush 60, 2) := by decide +kernel
theorem dX7_share_54 : decode cX7_share 54 = .ok (.imul, 1) := by decide +kernel
theorem dX7_share_55 : decode cX7_share 55 = .ok (.iload_n 2, 1) := by decide +kernel
theorem dX7_share_56 : decode cX7_share 56 = .ok (.invokestatic 131, 3) := by decide +kernel
theorem dX7_share_59 : decode cX7_share 59 = .ok (.ireturn, 1) := by decide +kernel
theorem dX7_see_0 : decode cX7_see 0 = .ok (.aload_n 0, 1) := by decide +kernel
theorem dX7_see_1 : decode cX7_see 1 = .ok (.getfield 16, 3) := by decide +kernel
theorem dX7_see_4 : decode cX7_see 4 = .ok (.iload_n 1, 1) := by decide +kernel
theorem dX7_see_5 : decode cX7_see 5 = .ok (.invokevirtual 112, 3) := by decide +kernel
end
section
theorem dX7_see_8 : decode cX7_see 8 = .ok (.ifCond .ne 5, 3) := by decide +kernel
theorem dX7_see_11 : decode cX7_see 11 = .ok (.iconst (-1), 1) := by decide +kernel
theorem dX7_see_12 : decode cX7_see 12 = .ok (.ireturn, 1) := by decide +kernel
theorem dX7_see_13 : decode cX7_see 13 = .ok (.iload_n 2, 1) := by decide +kernel
theorem dX7_see_14 : decode cX7_see 14 = .ok (.iconst 1, 1) := by decide +kernel
theorem dX7_see_15 : decode cX7_see 15 = .ok (.if_icmp .lt 18, 3) := by decide +kernel
theorem dX7_see_18 : decode cX7_see 18 = .ok (.iload_n 2, 1) := by decide +kernel
theorem dX7_see_19 : decode cX7_see 19 = .ok (.bipush 9, 2) := by decide +kernel
theorem dX7_see_21 : decode cX7_see 21 = .ok (.if_icmp .gt 12, 3) := by decide +kernel
theorem dX7_see_24 : decode cX7_see 24 = .ok (.iload_n 3, 1) := by decide +kernel
theorem dX7_see_25 : decode cX7_see 25 = .ok (.ifCond .lt 8, 3) := by decide +kernel
theorem dX7_see_28 : decode cX7_see 28 = .ok (.iload_n 3, 1) := by decide +kernel
theorem dX7_see_29 : decode cX7_see 29 = .ok (.iconst 1, 1) := by decide +kernel
theorem dX7_see_30 : decode cX7_see 30 = .ok (.if_icmp .le 6, 3) := by decide +kernel
theorem dX7_see_33 : decode cX7_see 33 = .ok (.bipush (-2), 2) := by decide +kernel
theorem dX7_see_35 : decode cX7_see 35 = .ok (.ireturn, 1) := by decide +kernel
theorem dX7_see_36 : decode cX7_see 36 = .ok (.aload_n 0, 1) := by decide +kernel
theorem dX7_see_37 : decode cX7_see 37 = .ok (.getfield 48, 3) := by decide +kernel
theorem dX7_see_40 : decode cX7_see 40 = .ok (.iload_n 1, 1) := by decide +kernel
theorem dX7_see_41 : decode cX7_see 41 = .ok (.iload_n 2, 1) := by decide +kernel
theorem dX7_see_42 : decode cX7_see 42 = .ok (.iload_n 3, 1) := by decide +kernel
theorem dX7_see_43 : decode cX7_see 43 = .ok (.invokevirtual 190, 3) := by decide +kernel
theorem dX7_see_46 : decode cX7_see 46 = .ok (.ifCond .eq 13, 3) := by decide +kernel
theorem dX7_see_49 : decode cX7_see 49 = .ok (.aload_n 0, 1) := by decide +kernel
theorem dX7_see_50 : decode cX7_see 50 = .ok (.getfield 48, 3) := by decide +kernel
theorem dX7_see_53 : decode cX7_see 53 = .ok (.getfield 111, 3) := by decide +kernel
theorem dX7_see_56 : decode cX7_see 56 = .ok (.goto 5, 3) := by decide +kernel
theorem dX7_see_59 : decode cX7_see 59 = .ok (.bipush (-4), 2) := by decide +kernel
theorem dX7_see_61 : decode cX7_see 61 = .ok (.ireturn, 1) := by decide +kernel
theorem dX7_unsee_0 : decode cX7_unsee 0 = .ok (.aload_n 0, 1) := by decide +kernel
theorem dX7_unsee_1 : decode cX7_unsee 1 = .ok (.getfield 48, 3) := by decide +kernel
theorem dX7_unsee_4 : decode cX7_unsee 4 = .ok (.getfield 111, 3) := by decide +kernel
theorem dX7_unsee_7 : decode cX7_unsee 7 = .ok (.istore_n 1, 1) := by decide +kernel
theorem dX7_unsee_8 : decode cX7_unsee 8 = .ok (.aload_n 0, 1) := by decide +kernel
theorem dX7_unsee_9 : decode cX7_unsee 9 = .ok (.getfield 48, 3) := by decide +kernel
theorem dX7_unsee_12 : decode cX7_unsee 12 = .ok (.iconst 0, 1) := by decide +kernel
theorem dX7_unsee_13 : decode cX7_unsee 13 = .ok (.putfield 111, 3) := by decide +kernel
theorem dX7_unsee_16 : decode cX7_unsee 16 = .ok (.iload_n 1, 1) := by decide +kernel
theorem dX7_unsee_17 : decode cX7_unsee 17 = .ok (.ireturn, 1) := by decide +kernel
theorem dX7_began_0 : decode cX7_began 0 = .ok (.iload_n 1, 1) := by decide +kernel
theorem dX7_began_1 : decode cX7_began 1 = .ok (.ifCond .eq 11, 3) := by decide +kernel
theorem dX7_began_4 : decode cX7_began 4 = .ok (.iload_n 1, 1) := by decide +kernel
theorem dX7_began_5 : decode cX7_began 5 = .ok (.iconst 1, 1) := by decide +kernel
theorem dX7_began_6 : decode cX7_began 6 = .ok (.if_icmp .eq 6, 3) := by decide +kernel
theorem dX7_began_9 : decode cX7_began 9 = .ok (.bipush (-2), 2) := by decide +kernel
theorem dX7_began_11 : decode cX7_began 11 = .ok (.ireturn, 1) := by decide +kernel
theorem dX7_began_12 : decode cX7_began 12 = .ok (.bipush (-9), 2) := by decide +kernel
theorem dX7_began_14 : decode cX7_began 14 = .ok (.istore_n 2, 1) := by decide +kernel
theorem dX7_began_15 : decode cX7_began 15 = .ok (.iconst 0, 1) := by decide +kernel
theorem dX7_began_16 : decode cX7_began 16 = .ok (.istore_n 3, 1) := by decide +kernel
theorem dX7_began_17 : decode cX7_began 17 = .ok (.aload_n 0, 1) := by decide +kernel
theorem dX7_began_18 : decode cX7_began 18 = .ok (.getfield 55, 3) := by decide +kernel
theorem dX7_began_21 : decode cX7_began 21 = .ok (.aload_n 0, 1) := by decide +kernel
theorem dX7_began_22 : decode cX7_began 22 = .ok (.getfield 16, 3) := by decide +kernel
theorem dX7_began_25 : decode cX7_began 25 = .ok (.bipush 10, 2) := by decide +kernel
theorem dX7_began_27 : decode cX7_began 27 = .ok (.invokevirtual 142, 3) := by decide +kernel
theorem dX7_began_30 : decode cX7_began 30 = .ok (.ifCond .eq 111, 3) := by decide +kernel
theorem dX7_began_33 : decode cX7_began 33 = .ok (.aload_n 0, 1) := by decide +kernel
theorem dX7_began_34 : decode cX7_began 34 = .ok (.getfield 62, 3) := by decide +kernel
theorem dX7_began_37 : decode cX7_began 37 = .ok (.aload_n 0, 1) := by decide +kernel
theorem dX7_began_38 : decode cX7_began 38 = .ok (.getfield 16, 3) := by decide +kernel
theorem dX7_began_41 : decode cX7_began 41 = .ok (.bipush 10, 2) := by decide +kernel
theorem dX7_began_43 : decode cX7_began 43 = .ok (.invokevirtual 146, 3) := by decide +kernel
theorem dX7_began_46 : decode cX7_began 46 = .ok (.iconst 0, 1) := by decide +kernel
theorem dX7_began_47 : decode cX7_began 47 = .ok (.istore 4, 2) := by decide +kernel
theorem dX7_began_49 : decode cX7_began 49 = .ok (.iload 4, 2) := by decide +kernel
theorem dX7_began_51 : decode cX7_began 51 = .ok (.aload_n 0, 1) := by decide +kernel
theorem dX7_began_52 : decode cX7_began 52 = .ok (.getfield 16, 3) := by decide +kernel
theorem dX7_began_55 : decode cX7_began 55 = .ok (.getfield 92, 3) := by decide +kernel
theorem dX7_began_58 : decode cX7_began 58 = .ok (.if_icmp .ge 83, 3) := by decide +kernel
theorem dX7_began_61 : decode cX7_began 61 = .ok (.aload_n 0, 1) := by decide +kernel
theorem dX7_began_62 : decode cX7_began 62 = .ok (.getfield 62, 3) := by decide +kernel
theorem dX7_began_65 : decode cX7_began 65 = .ok (.aload_n 0, 1) := by decide +kernel
theorem dX7_began_66 : decode cX7_began 66 = .ok (.getfield 16, 3) := by decide +kernel
theorem dX7_began_69 : decode cX7_began 69 = .ok (.iload 4, 2) := by decide +kernel
theorem dX7_began_71 : decode cX7_began 71 = .ok (.bipush 9, 2) := by decide +kernel
theorem dX7_began_73 : decode cX7_began 73 = .ok (.invokevirtual 157, 3) := by decide +kernel
theorem dX7_began_76 : decode cX7_began 76 = .ok (.iconst 1, 1) := by decide +kernel
theorem dX7_began_77 : decode cX7_began 77 = .ok (.istore 5, 2) := by decide +kernel
theorem dX7_began_79 : decode cX7_began 79 = .ok (.iload 5, 2) := by decide +kernel
theorem dX7_began_81 : decode cX7_began 81 = .ok (.bipush 30, 2) := by decide +kernel
theorem dX7_began_83 : decode cX7_began 83 = .ok (.if_icmp .gt 52, 3) := by decide +kernel
theorem dX7_began_86 : decode cX7_began 86 = .ok (.aload_n 0, 1) := by decide +kernel
theorem dX7_began_87 : decode cX7_began 87 = .ok (.getfield 48, 3) := by decide +kernel
theorem dX7_began_90 : decode cX7_began 90 = .ok (.aload_n 0, 1) := by decide +kernel
theorem dX7_began_91 : decode cX7_began 91 = .ok (.getfield 62, 3) := by decide +kernel
theorem dX7_began_94 : decode cX7_began 94 = .ok (.iload 5, 2) := by decide +kernel
theorem dX7_began_96 : decode cX7_began 96 = .ok (.aload_n 0, 1) := by decide +kernel
theorem dX7_began_97 : decode cX7_began 97 = .ok (.getfield 16, 3) := by decide +kernel
theorem dX7_began_100 : decode cX7_began 100 = .ok (.getfield 92, 3) := by decide +kernel
theorem dX7_began_103 : decode cX7_began 103 = .ok (.invokevirtual 193, 3) := by decide +kernel
theorem dX7_began_106 : decode cX7_began 106 = .ok (.ifCond .eq 23, 3) := by decide +kernel
theorem dX7_began_109 : decode cX7_began 109 = .ok (.iload_n 3, 1) := by decide +kernel
theorem dX7_began_110 : decode cX7_began 110 = .ok (.ifCond .ne 14, 3) := by decide +kernel
theorem dX7_began_113 : decode cX7_began 113 = .ok (.bipush 100, 2) := by decide +kernel
theorem dX7_began_115 : decode cX7_began 115 = .ok (.iload 4, 2) := by decide +kernel
theorem dX7_began_117 : decode cX7_began 117 = .ok (.imul, 1) := by decide +kernel
theorem dX7_began_118 : decode cX7_began 118 = .ok (.iload 5, 2) := by decide +kernel
theorem dX7_began_120 : decode cX7_began 120 = .ok (.iadd, 1) := by decide +kernel
theorem dX7_began_121 : decode cX7_began 121 = .ok (.goto 4, 3) := by decide +kernel
theorem dX7_began_124 : decode cX7_began 124 = .ok (.iload_n 2, 1) := by decide +kernel
theorem dX7_began_125 : decode cX7_began 125 = .ok (.istore_n 2, 1) := by decide +kernel
theorem dX7_began_126 : decode cX7_began 126 = .ok (.iinc 3 1, 3) := by decide +kernel
theorem dX7_began_129 : decode cX7_began 129 = .ok (.iinc 5 1, 3) := by decide +kernel
theorem dX7_began_132 : decode cX7_began 132 = .ok (.goto (-53), 3) := by decide +kernel
theorem dX7_began_135 : decode cX7_began 135 = .ok (.iinc 4 1, 3) := by decide +kernel
theorem dX7_began_138 : decode cX7_began 138 = .ok (.goto (-89), 3) := by decide +kernel
theorem dX7_began_141 : decode cX7_began 141 = .ok (.iload_n 1, 1) := by decide +kernel
theorem dX7_began_142 : decode cX7_began 142 = .ok (.ifCond .ne 7, 3) := by decide +kernel
theorem dX7_began_145 : decode cX7_began 145 = .ok (.iload_n 3, 1) := by decide +kernel
theorem dX7_began_146 : decode cX7_began 146 = .ok (.goto 4, 3) := by decide +kernel
theorem dX7_began_149 : decode cX7_began 149 = .ok (.iload_n 2, 1) := by decide +kernel
theorem dX7_began_150 : decode cX7_began 150 = .ok (.ireturn, 1) := by decide +kernel
theorem dX7_dropped_0 : decode cX7_dropped 0 = .ok (.aload_n 0, 1) := by decide +kernel
theorem dX7_dropped_1 : decode cX7_dropped 1 = .ok (.getfield 16, 3) := by decide +kernel
theorem dX7_dropped_4 : decode cX7_dropped 4 = .ok (.iload_n 1, 1) := by decide +kernel
theorem dX7_dropped_5 : decode cX7_dropped 5 = .ok (.invokevirtual 112, 3) := by decide +kernel
theorem dX7_dropped_8 : decode cX7_dropped 8 = .ok (.ifCond .ne 5, 3) := by decide +kernel
theorem dX7_dropped_11 : decode cX7_dropped 11 = .ok (.iconst (-1), 1) := by decide +kernel
theorem dX7_dropped_12 : decode cX7_dropped 12 = .ok (.ireturn, 1) := by decide +kernel
theorem dX7_dropped_13 : decode cX7_dropped 13 = .ok (.iload_n 2, 1) := by decide +kernel
theorem dX7_dropped_14 : decode cX7_dropped 14 = .ok (.ifCond .lt 19, 3) := by decide +kernel
theorem dX7_dropped_17 : decode cX7_dropped 17 = .ok (.iload_n 2, 1) := by decide +kernel
theorem dX7_dropped_18 : decode cX7_dropped 18 = .ok (.bipush 20, 2) := by decide +kernel
theorem dX7_dropped_20 : decode cX7_dropped 20 = .ok (.if_icmp .gt 13, 3) := by decide +kernel
theorem dX7_dropped_23 : decode cX7_dropped 23 = .ok (.iload_n 3, 1) := by decide +kernel
theorem dX7_dropped_24 : decode cX7_dropped 24 = .ok (.ifCond .lt 9, 3) := by decide +kernel
theorem dX7_dropped_27 : decode cX7_dropped 27 = .ok (.iload_n 3, 1) := by decide +kernel
theorem dX7_dropped_28 : decode cX7_dropped 28 = .ok (.bipush 10, 2) := by decide +kernel
theorem dX7_dropped_30 : decode cX7_dropped 30 = .ok (.if_icmp .le 6, 3) := by decide +kernel
theorem dX7_dropped_33 : decode cX7_dropped 33 = .ok (.bipush (-2), 2) := by decide +kernel
theorem dX7_dropped_35 : decode cX7_dropped 35 = .ok (.ireturn, 1) := by decide +kernel
theorem dX7_dropped_36 : decode cX7_dropped 36 = .ok (.aload_n 0, 1) := by decide +kernel
theorem dX7_dropped_37 : decode cX7_dropped 37 = .ok (.getfield 20, 3) := by decide +kernel
theorem dX7_dropped_40 : decode cX7_dropped 40 = .ok (.aload_n 0, 1) := by decide +kernel
theorem dX7_dropped_41 : decode cX7_dropped 41 = .ok (.getfield 16, 3) := by decide +kernel
theorem dX7_dropped_44 : decode cX7_dropped 44 = .ok (.invokevirtual 81, 3) := by decide +kernel
theorem dX7_dropped_47 : decode cX7_dropped 47 = .ok (.iconst 0, 1) := by decide +kernel
theorem dX7_dropped_48 : decode cX7_dropped 48 = .ok (.istore 5, 2) := by decide +kernel
theorem dX7_dropped_50 : decode cX7_dropped 50 = .ok (.iload 5, 2) := by decide +kernel
theorem dX7_dropped_52 : decode cX7_dropped 52 = .ok (.aload_n 0, 1) := by decide +kernel
theorem dX7_dropped_53 : decode cX7_dropped 53 = .ok (.getfield 16, 3) := by decide +kernel
theorem dX7_dropped_56 : decode cX7_dropped 56 = .ok (.getfield 92, 3) := by decide +kernel
theorem dX7_dropped_59 : decode cX7_dropped 59 = .ok (.if_icmp .ge 22, 3) := by decide +kernel
theorem dX7_dropped_62 : decode cX7_dropped 62 = .ok (.aload_n 0, 1) := by decide +kernel
theorem dX7_dropped_63 : decode cX7_dropped 63 = .ok (.getfield 20, 3) := by decide +kernel
theorem dX7_dropped_66 : decode cX7_dropped 66 = .ok (.iload_n 1, 1) := by decide +kernel
theorem dX7_dropped_67 : decode cX7_dropped 67 = .ok (.iload 5, 2) := by decide +kernel
theorem dX7_dropped_69 : decode cX7_dropped 69 = .ok (.bipush (-9), 2) := by decide +kernel
theorem dX7_dropped_71 : decode cX7_dropped 71 = .ok (.invokevirtual 169, 3) := by decide +kernel
theorem dX7_dropped_74 : decode cX7_dropped 74 = .ok (.pop, 1) := by decide +kernel
theorem dX7_dropped_75 : decode cX7_dropped 75 = .ok (.iinc 5 1, 3) := by decide +kernel
theorem dX7_dropped_78 : decode cX7_dropped 78 = .ok (.goto (-28), 3) := by decide +kernel
theorem dX7_dropped_81 : decode cX7_dropped 81 = .ok (.aload_n 0, 1) := by decide +kernel
theorem dX7_dropped_82 : decode cX7_dropped 82 = .ok (.getfield 55, 3) := by decide +kernel
theorem dX7_dropped_85 : decode cX7_dropped 85 = .ok (.aload_n 0, 1) := by decide +kernel
theorem dX7_dropped_86 : decode cX7_dropped 86 = .ok (.getfield 20, 3) := by decide +kernel
theorem dX7_dropped_89 : decode cX7_dropped 89 = .ok (.iload_n 2, 1) := by decide +kernel
theorem dX7_dropped_90 : decode cX7_dropped 90 = .ok (.invokevirtual 142, 3) := by decide +kernel
theorem dX7_dropped_93 : decode cX7_dropped 93 = .ok (.ifCond .ne 11, 3) := by decide +kernel
theorem dX7_dropped_96 : decode cX7_dropped 96 = .ok (.iconst 0, 1) := by decide +kernel
theorem dX7_dropped_97 : decode cX7_dropped 97 = .ok (.iconst 1, 1) := by decide +kernel
theorem dX7_dropped_98 : decode cX7_dropped 98 = .ok (.iload 4, 2) := by decide +kernel
theorem dX7_dropped_100 : decode cX7_dropped 100 = .ok (.invokestatic 131, 3) := by decide +kernel
theorem dX7_dropped_103 : decode cX7_dropped 103 = .ok (.ireturn, 1) := by decide +kernel
theorem dX7_dropped_104 : decode cX7_dropped 104 = .ok (.iconst 1, 1) := by decide +kernel
theorem dX7_dropped_105 : decode cX7_dropped 105 = .ok (.istore 5, 2) := by decide +kernel
theorem dX7_dropped_107 : decode cX7_dropped 107 = .ok (.iconst 1, 1) := by decide +kernel
theorem dX7_dropped_108 : decode cX7_dropped 108 = .ok (.istore 6, 2) := by decide +kernel
theorem dX7_dropped_110 : decode cX7_dropped 110 = .ok (.iconst 0, 1) := by decide +kernel
theorem dX7_dropped_111 : decode cX7_dropped 111 = .ok (.istore 7, 2) := by decide +kernel
theorem dX7_dropped_113 : decode cX7_dropped 113 = .ok (.iload 7, 2) := by decide +kernel
theorem dX7_dropped_115 : decode cX7_dropped 115 = .ok (.aload_n 0, 1) := by decide +kernel
theorem dX7_dropped_116 : decode cX7_dropped 116 = .ok (.getfield 16, 3) := by decide +kernel
theorem dX7_dropped_119 : decode cX7_dropped 119 = .ok (.getfield 92, 3) := by decide +kernel
theorem dX7_dropped_122 : decode cX7_dropped 122 = .ok (.if_icmp .ge 71, 3) := by decide +kernel
theorem dX7_dropped_125 : decode cX7_dropped 125 = .ok (.aload_n 0, 1) := by decide +kernel
theorem dX7_dropped_126 : decode cX7_dropped 126 = .ok (.getfield 20, 3) := by decide +kernel
theorem dX7_dropped_129 : decode cX7_dropped 129 = .ok (.iload_n 1, 1) := by decide +kernel
theorem dX7_dropped_130 : decode cX7_dropped 130 = .ok (.iload 7, 2) := by decide +kernel
theorem dX7_dropped_132 : decode cX7_dropped 132 = .ok (.aload_n 0, 1) := by decide +kernel
theorem dX7_dropped_133 : decode cX7_dropped 133 = .ok (.getfield 16, 3) := by decide +kernel
theorem dX7_dropped_136 : decode cX7_dropped 136 = .ok (.iload_n 1, 1) := by decide +kernel
theorem dX7_dropped_137 : decode cX7_dropped 137 = .ok (.iload 7, 2) := by decide +kernel
theorem dX7_dropped_139 : decode cX7_dropped 139 = .ok (.invokevirtual 116, 3) := by decide +kernel
theorem dX7_dropped_142 : decode cX7_dropped 142 = .ok (.invokevirtual 169, 3) := by decide +kernel
theorem dX7_dropped_145 : decode cX7_dropped 145 = .ok (.pop, 1) := by decide +kernel
theorem dX7_dropped_146 : decode cX7_dropped 146 = .ok (.aload_n 0, 1) := by decide +kernel
theorem dX7_dropped_147 : decode cX7_dropped 147 = .ok (.getfield 55, 3) := by decide +kernel
theorem dX7_dropped_150 : decode cX7_dropped 150 = .ok (.aload_n 0, 1) := by decide +kernel
theorem dX7_dropped_151 : decode cX7_dropped 151 = .ok (.getfield 20, 3) := by decide +kernel
theorem dX7_dropped_154 : decode cX7_dropped 154 = .ok (.iload_n 2, 1) := by decide +kernel
theorem dX7_dropped_155 : decode cX7_dropped 155 = .ok (.invokevirtual 142, 3) := by decide +kernel
theorem dX7_dropped_158 : decode cX7_dropped 158 = .ok (.ifCond .ne 16, 3) := by decide +kernel
theorem dX7_dropped_161 : decode cX7_dropped 161 = .ok (.iload 5, 2) := by decide +kernel
theorem dX7_dropped_163 : decode cX7_dropped 163 = .ok (.iload_n 3, 1) := by decide +kernel
theorem dX7_dropped_164 : decode cX7_dropped 164 = .ok (.imul, 1) := by decide +kernel
theorem dX7_dropped_165 : decode cX7_dropped 165 = .ok (.istore 5, 2) := by decide +kernel
theorem dX7_dropped_167 : decode cX7_dropped 167 = .ok (.iload 6, 2) := by decide +kernel
theorem dX7_dropped_169 : decode cX7_dropped 169 = .ok (.bipush 10, 2) := by decide +kernel
theorem dX7_dropped_171 : decode cX7_dropped 171 = .ok (.imul, 1) := by decide +kernel
theorem dX7_dropped_172 : decode cX7_dropped 172 = .ok (.istore 6, 2) := by decide +kernel
theorem dX7_dropped_174 : decode cX7_dropped 174 = .ok (.aload_n 0, 1) := by decide +kernel
theorem dX7_dropped_175 : decode cX7_dropped 175 = .ok (.getfield 20, 3) := by decide +kernel
theorem dX7_dropped_178 : decode cX7_dropped 178 = .ok (.iload_n 1, 1) := by decide +kernel
theorem dX7_dropped_179 : decode cX7_dropped 179 = .ok (.iload 7, 2) := by decide +kernel
theorem dX7_dropped_181 : decode cX7_dropped 181 = .ok (.bipush (-9), 2) := by decide +kernel
theorem dX7_dropped_183 : decode cX7_dropped 183 = .ok (.invokevirtual 169, 3) := by decide +kernel
theorem dX7_dropped_186 : decode cX7_dropped 186 = .ok (.pop, 1) := by decide +kernel
theorem dX7_dropped_187 : decode cX7_dropped 187 = .ok (.iinc 7 1, 3) := by decide +kernel
theorem dX7_dropped_190 : decode cX7_dropped 190 = .ok (.goto (-77), 3) := by decide +kernel
theorem dX7_dropped_193 : decode cX7_dropped 193 = .ok (.iload 5, 2) := by decide +kernel
theorem dX7_dropped_195 : decode cX7_dropped 195 = .ok (.iload 6, 2) := by decide +kernel
theorem dX7_dropped_197 : decode cX7_dropped 197 = .ok (.iload 4, 2) := by decide +kernel
theorem dX7_dropped_199 : decode cX7_dropped 199 = .ok (.invokestatic 131, 3) := by decide +kernel
theorem dX7_dropped_202 : decode cX7_dropped 202 = .ok (.ireturn, 1) := by decide +kernel
theorem dX7_seed_0 : decode cX7_seed 0 = .ok (.aload_n 0, 1) := by decide +kernel
theorem dX7_seed_1 : decode cX7_seed 1 = .ok (.getfield 197, 3) := by decide +kernel
theorem dX7_seed_4 : decode cX7_seed 4 = .ok (.lstore_n 3, 1) := by decide +kernel
theorem dX7_seed_5 : decode cX7_seed 5 = .ok (.aload_n 0, 1) := by decide +kernel
theorem dX7_seed_6 : decode cX7_seed 6 = .ok (.lload_n 1, 1) := by decide +kernel
theorem dX7_seed_7 : decode cX7_seed 7 = .ok (.putfield 197, 3) := by decide +kernel
theorem dX7_seed_10 : decode cX7_seed 10 = .ok (.lload_n 3, 1) := by decide +kernel
theorem dX7_seed_11 : decode cX7_seed 11 = .ok (.lreturn, 1) := by decide +kernel
theorem dX7_drawn_0 : decode cX7_drawn 0 = .ok (.iload_n 1, 1) := by decide +kernel
theorem dX7_drawn_1 : decode cX7_drawn 1 = .ok (.iconst 1, 1) := by decide +kernel
theorem dX7_drawn_2 : decode cX7_drawn 2 = .ok (.if_icmp .lt 9, 3) := by decide +kernel
theorem dX7_drawn_5 : decode cX7_drawn 5 = .ok (.iload_n 1, 1) := by decide +kernel
theorem dX7_drawn_6 : decode cX7_drawn 6 = .ok (.bipush 20, 2) := by decide +kernel
theorem dX7_drawn_8 : decode cX7_drawn 8 = .ok (.if_icmp .le 6, 3) := by decide +kernel
theorem dX7_drawn_11 : decode cX7_drawn 11 = .ok (.bipush (-2), 2) := by decide +kernel
theorem dX7_drawn_13 : decode cX7_drawn 13 = .ok (.ireturn, 1) := by decide +kernel
theorem dX7_drawn_14 : decode cX7_drawn 14 = .ok (.aload_n 0, 1) := by decide +kernel
theorem dX7_drawn_15 : decode cX7_drawn 15 = .ok (.getfield 20, 3) := by decide +kernel
theorem dX7_drawn_18 : decode cX7_drawn 18 = .ok (.aload_n 0, 1) := by decide +kernel
theorem dX7_drawn_19 : decode cX7_drawn 19 = .ok (.getfield 16, 3) := by decide +kernel
theorem dX7_drawn_22 : decode cX7_drawn 22 = .ok (.invokevirtual 81, 3) := by decide +kernel
theorem dX7_drawn_25 : decode cX7_drawn 25 = .ok (.iconst 0, 1) := by decide +kernel
theorem dX7_drawn_26 : decode cX7_drawn 26 = .ok (.istore_n 2, 1) := by decide +kernel
theorem dX7_drawn_27 : decode cX7_drawn 27 = .ok (.iconst 0, 1) := by decide +kernel
theorem dX7_drawn_28 : decode cX7_drawn 28 = .ok (.istore_n 3, 1) := by decide +kernel
theorem dX7_drawn_29 : decode cX7_drawn 29 = .ok (.iload_n 3, 1) := by decide +kernel
theorem dX7_drawn_30 : decode cX7_drawn 30 = .ok (.iload_n 1, 1) := by decide +kernel
theorem dX7_drawn_31 : decode cX7_drawn 31 = .ok (.if_icmp .ge 101, 3) := by decide +kernel
theorem dX7_drawn_34 : decode cX7_drawn 34 = .ok (.aload_n 0, 1) := by decide +kernel
theorem dX7_drawn_35 : decode cX7_drawn 35 = .ok (.aload_n 0, 1) := by decide +kernel
theorem dX7_drawn_36 : decode cX7_drawn 36 = .ok (.getfield 197, 3) := by decide +kernel
theorem dX7_drawn_39 : decode cX7_drawn 39 = .ok (.ldc2_w 201, 3) := by decide +kernel
theorem dX7_drawn_42 : decode cX7_drawn 42 = .ok (.lmul, 1) := by decide +kernel
theorem dX7_drawn_43 : decode cX7_drawn 43 = .ok (.ldc2_w 203, 3) := by decide +kernel
theorem dX7_drawn_46 : decode cX7_drawn 46 = .ok (.ladd, 1) := by decide +kernel
theorem dX7_drawn_47 : decode cX7_drawn 47 = .ok (.putfield 197, 3) := by decide +kernel
theorem dX7_drawn_50 : decode cX7_drawn 50 = .ok (.aload_n 0, 1) := by decide +kernel
theorem dX7_drawn_51 : decode cX7_drawn 51 = .ok (.getfield 197, 3) := by decide +kernel
theorem dX7_drawn_54 : decode cX7_drawn 54 = .ok (.bipush 33, 2) := by decide +kernel
theorem dX7_drawn_56 : decode cX7_drawn 56 = .ok (.lushr, 1) := by decide +kernel
theorem dX7_drawn_57 : decode cX7_drawn 57 = .ok (.l2i, 1) := by decide +kernel
theorem dX7_drawn_58 : decode cX7_drawn 58 = .ok (.istore 4, 2) := by decide +kernel
theorem dX7_drawn_60 : decode cX7_drawn 60 = .ok (.iload 4, 2) := by decide +kernel
theorem dX7_drawn_62 : decode cX7_drawn 62 = .ok (.bipush 64, 2) := by decide +kernel
theorem dX7_drawn_64 : decode cX7_drawn 64 = .ok (.idiv, 1) := by decide +kernel
theorem dX7_drawn_65 : decode cX7_drawn 65 = .ok (.bipush 11, 2) := by decide +kernel
theorem dX7_drawn_67 : decode cX7_drawn 67 = .ok (.irem, 1) := by decide +kernel
theorem dX7_drawn_68 : decode cX7_drawn 68 = .ok (.istore 5, 2) := by decide +kernel
theorem dX7_drawn_70 : decode cX7_drawn 70 = .ok (.aload_n 0, 1) := by decide +kernel
theorem dX7_drawn_71 : decode cX7_drawn 71 = .ok (.getfield 20, 3) := by decide +kernel
theorem dX7_drawn_74 : decode cX7_drawn 74 = .ok (.iload 4, 2) := by decide +kernel
theorem dX7_drawn_76 : decode cX7_drawn 76 = .ok (.bipush 6, 2) := by decide +kernel
theorem dX7_drawn_78 : decode cX7_drawn 78 = .ok (.irem, 1) := by decide +kernel
theorem dX7_drawn_79 : decode cX7_drawn 79 = .ok (.iload 4, 2) := by decide +kernel
theorem dX7_drawn_81 : decode cX7_drawn 81 = .ok (.bipush 8, 2) := by decide +kernel
theorem dX7_drawn_83 : decode cX7_drawn 83 = .ok (.idiv, 1) := by decide +kernel
theorem dX7_drawn_84 : decode cX7_drawn 84 = .ok (.bipush 6, 2) := by decide +kernel
theorem dX7_drawn_86 : decode cX7_drawn 86 = .ok (.irem, 1) := by decide +kernel
theorem dX7_drawn_87 : decode cX7_drawn 87 = .ok (.iload 5, 2) := by decide +kernel
theorem dX7_drawn_89 : decode cX7_drawn 89 = .ok (.bipush 9, 2) := by decide +kernel
theorem dX7_drawn_91 : decode cX7_drawn 91 = .ok (.if_icmp .le 8, 3) := by decide +kernel
theorem dX7_drawn_94 : decode cX7_drawn 94 = .ok (.bipush (-9), 2) := by decide +kernel
theorem dX7_drawn_96 : decode cX7_drawn 96 = .ok (.goto 5, 3) := by decide +kernel
theorem dX7_drawn_99 : decode cX7_drawn 99 = .ok (.iload 5, 2) := by decide +kernel
theorem dX7_drawn_101 : decode cX7_drawn 101 = .ok (.invokevirtual 169, 3) := by decide +kernel
theorem dX7_drawn_104 : decode cX7_drawn 104 = .ok (.pop, 1) := by decide +kernel
theorem dX7_drawn_105 : decode cX7_drawn 105 = .ok (.iload_n 2, 1) := by decide +kernel
theorem dX7_drawn_106 : decode cX7_drawn 106 = .ok (.iconst 0, 1) := by decide +kernel
theorem dX7_drawn_107 : decode cX7_drawn 107 = .ok (.aload_n 0, 1) := by decide +kernel
theorem dX7_drawn_108 : decode cX7_drawn 108 = .ok (.getfield 55, 3) := by decide +kernel
theorem dX7_drawn_111 : decode cX7_drawn 111 = .ok (.aload_n 0, 1) := by decide +kernel
theorem dX7_drawn_112 : decode cX7_drawn 112 = .ok (.getfield 20, 3) := by decide +kernel
theorem dX7_drawn_115 : decode cX7_drawn 115 = .ok (.invokevirtual 127, 3) := by decide +kernel
theorem dX7_drawn_118 : decode cX7_drawn 118 = .ok (.invokestatic 205, 3) := by decide +kernel
theorem dX7_drawn_121 : decode cX7_drawn 121 = .ok (.bipush 60, 2) := by decide +kernel
theorem dX7_drawn_123 : decode cX7_drawn 123 = .ok (.idiv, 1) := by decide +kernel
theorem dX7_drawn_124 : decode cX7_drawn 124 = .ok (.iadd, 1) := by decide +kernel
theorem dX7_drawn_125 : decode cX7_drawn 125 = .ok (.istore_n 2, 1) := by decide +kernel
theorem dX7_drawn_126 : decode cX7_drawn 126 = .ok (.iinc 3 1, 3) := by decide +kernel
theorem dX7_drawn_129 : decode cX7_drawn 129 = .ok (.goto (-100), 3) := by decide +kernel
theorem dX7_drawn_132 : decode cX7_drawn 132 = .ok (.iload_n 2, 1) := by decide +kernel
theorem dX7_drawn_133 : decode cX7_drawn 133 = .ok (.ireturn, 1) := by decide +kernel
theorem dX7_keep_0 : decode cX7_keep 0 = .ok (.iload_n 1, 1) := by decide +kernel
theorem dX7_keep_1 : decode cX7_keep 1 = .ok (.ifCond .lt 8, 3) := by decide +kernel
theorem dX7_keep_4 : decode cX7_keep 4 = .ok (.iload_n 1, 1) := by decide +kernel
theorem dX7_keep_5 : decode cX7_keep 5 = .ok (.iconst 2, 1) := by decide +kernel
theorem dX7_keep_6 : decode cX7_keep 6 = .ok (.if_icmp .lt 5, 3) := by decide +kernel
theorem dX7_keep_9 : decode cX7_keep 9 = .ok (.iconst (-1), 1) := by decide +kernel
theorem dX7_keep_10 : decode cX7_keep 10 = .ok (.ireturn, 1) := by decide +kernel
theorem dX7_keep_11 : decode cX7_keep 11 = .ok (.aload_n 0, 1) := by decide +kernel
theorem dX7_keep_12 : decode cX7_keep 12 = .ok (.getfield 23, 3) := by decide +kernel
theorem dX7_keep_15 : decode cX7_keep 15 = .ok (.iload_n 1, 1) := by decide +kernel
theorem dX7_keep_16 : decode cX7_keep 16 = .ok (.aaload, 1) := by decide +kernel
theorem dX7_keep_17 : decode cX7_keep 17 = .ok (.aload_n 0, 1) := by decide +kernel
theorem dX7_keep_18 : decode cX7_keep 18 = .ok (.getfield 16, 3) := by decide +kernel
theorem dX7_keep_21 : decode cX7_keep 21 = .ok (.invokevirtual 81, 3) := by decide +kernel
theorem dX7_keep_24 : decode cX7_keep 24 = .ok (.aload_n 0, 1) := by decide +kernel
theorem dX7_keep_25 : decode cX7_keep 25 = .ok (.getfield 27, 3) := by decide +kernel
theorem dX7_keep_28 : decode cX7_keep 28 = .ok (.iload_n 1, 1) := by decide +kernel
theorem dX7_keep_29 : decode cX7_keep 29 = .ok (.iconst 1, 1) := by decide +kernel
theorem dX7_keep_30 : decode cX7_keep 30 = .ok (.bastore, 1) := by decide +kernel
theorem dX7_keep_31 : decode cX7_keep 31 = .ok (.aload_n 0, 1) := by decide +kernel
theorem dX7_keep_32 : decode cX7_keep 32 = .ok (.getfield 16, 3) := by decide +kernel
theorem dX7_keep_35 : decode cX7_keep 35 = .ok (.invokevirtual 88, 3) := by decide +kernel
theorem dX7_keep_38 : decode cX7_keep 38 = .ok (.ireturn, 1) := by decide +kernel
theorem dX7_again_0 : decode cX7_again 0 = .ok (.iload_n 1, 1) := by decide +kernel
theorem dX7_again_1 : decode cX7_again 1 = .ok (.ifCond .lt 8, 3) := by decide +kernel
theorem dX7_again_4 : decode cX7_again 4 = .ok (.iload_n 1, 1) := by decide +kernel
theorem dX7_again_5 : decode cX7_again 5 = .ok (.iconst 2, 1) := by decide +kernel
theorem dX7_again_6 : decode cX7_again 6 = .ok (.if_icmp .lt 5, 3) := by decide +kernel
theorem dX7_again_9 : decode cX7_again 9 = .ok (.iconst (-1), 1) := by decide +kernel
theorem dX7_again_10 : decode cX7_again 10 = .ok (.ireturn, 1) := by decide +kernel
theorem dX7_again_11 : decode cX7_again 11 = .ok (.aload_n 0, 1) := by decide +kernel
theorem dX7_again_12 : decode cX7_again 12 = .ok (.getfield 27, 3) := by decide +kernel
theorem dX7_again_15 : decode cX7_again 15 = .ok (.iload_n 1, 1) := by decide +kernel
theorem dX7_again_16 : decode cX7_again 16 = .ok (.baload, 1) := by decide +kernel
theorem dX7_again_17 : decode cX7_again 17 = .ok (.ifCond .ne 6, 3) := by decide +kernel
theorem dX7_again_20 : decode cX7_again 20 = .ok (.bipush (-3), 2) := by decide +kernel
theorem dX7_again_22 : decode cX7_again 22 = .ok (.ireturn, 1) := by decide +kernel
theorem dX7_again_23 : decode cX7_again 23 = .ok (.aload_n 0, 1) := by decide +kernel
theorem dX7_again_24 : decode cX7_again 24 = .ok (.getfield 16, 3) := by decide +kernel
theorem dX7_again_27 : decode cX7_again 27 = .ok (.aload_n 0, 1) := by decide +kernel
theorem dX7_again_28 : decode cX7_again 28 = .ok (.getfield 23, 3) := by decide +kernel
theorem dX7_again_31 : decode cX7_again 31 = .ok (.iload_n 1, 1) := by decide +kernel
theorem dX7_again_32 : decode cX7_again 32 = .ok (.aaload, 1) := by decide +kernel
theorem dX7_again_33 : decode cX7_again 33 = .ok (.invokevirtual 81, 3) := by decide +kernel
theorem dX7_again_36 : decode cX7_again 36 = .ok (.aload_n 0, 1) := by decide +kernel
theorem dX7_again_37 : decode cX7_again 37 = .ok (.getfield 41, 3) := by decide +kernel
theorem dX7_again_40 : decode cX7_again 40 = .ok (.invokevirtual 85, 3) := by decide +kernel
theorem dX7_again_43 : decode cX7_again 43 = .ok (.aload_n 0, 1) := by decide +kernel
theorem dX7_again_44 : decode cX7_again 44 = .ok (.getfield 16, 3) := by decide +kernel
theorem dX7_again_47 : decode cX7_again 47 = .ok (.invokevirtual 88, 3) := by decide +kernel
theorem dX7_again_50 : decode cX7_again 50 = .ok (.ireturn, 1) := by decide +kernel
theorem dX7_change_0 : decode cX7_change 0 = .ok (.aload_n 0, 1) := by decide +kernel
theorem dX7_change_1 : decode cX7_change 1 = .ok (.getfield 16, 3) := by decide +kernel
theorem dX7_change_4 : decode cX7_change 4 = .ok (.iload_n 1, 1) := by decide +kernel
theorem dX7_change_5 : decode cX7_change 5 = .ok (.iload_n 2, 1) := by decide +kernel
theorem dX7_change_6 : decode cX7_change 6 = .ok (.invokevirtual 116, 3) := by decide +kernel
theorem dX7_change_9 : decode cX7_change 9 = .ok (.istore 4, 2) := by decide +kernel
theorem dX7_change_11 : decode cX7_change 11 = .ok (.aload_n 0, 1) := by decide +kernel
theorem dX7_change_12 : decode cX7_change 12 = .ok (.getfield 41, 3) := by decide +kernel
theorem dX7_change_15 : decode cX7_change 15 = .ok (.iload_n 1, 1) := by decide +kernel
theorem dX7_change_16 : decode cX7_change 16 = .ok (.iload_n 2, 1) := by decide +kernel
theorem dX7_change_17 : decode cX7_change 17 = .ok (.iload 4, 2) := by decide +kernel
theorem dX7_change_19 : decode cX7_change 19 = .ok (.invokevirtual 210, 3) := by decide +kernel
theorem dX7_change_22 : decode cX7_change 22 = .ok (.aload_n 0, 1) := by decide +kernel
theorem dX7_change_23 : decode cX7_change 23 = .ok (.getfield 16, 3) := by decide +kernel
theorem dX7_change_26 : decode cX7_change 26 = .ok (.iload_n 1, 1) := by decide +kernel
theorem dX7_change_27 : decode cX7_change 27 = .ok (.iload_n 2, 1) := by decide +kernel
theorem dX7_change_28 : decode cX7_change 28 = .ok (.iload_n 3, 1) := by decide +kernel
theorem dX7_change_29 : decode cX7_change 29 = .ok (.invokevirtual 169, 3) := by decide +kernel
theorem dX7_change_32 : decode cX7_change 32 = .ok (.pop, 1) := by decide +kernel
theorem dX7_change_33 : decode cX7_change 33 = .ok (.iload 4, 2) := by decide +kernel
theorem dX7_change_35 : decode cX7_change 35 = .ok (.ireturn, 1) := by decide +kernel
theorem dX7_aboutEachWait_0 : decode cX7_aboutEachWait 0 = .ok (.aload_n 0, 1) := by decide +kernel
theorem dX7_aboutEachWait_1 : decode cX7_aboutEachWait 1 = .ok (.getfield 55, 3) := by decide +kernel
theorem dX7_aboutEachWait_4 : decode cX7_aboutEachWait 4 = .ok (.aload_n 0, 1) := by decide +kernel
theorem dX7_aboutEachWait_5 : decode cX7_aboutEachWait 5 = .ok (.getfield 16, 3) := by decide +kernel
theorem dX7_aboutEachWait_8 : decode cX7_aboutEachWait 8 = .ok (.invokevirtual 135, 3) := by decide +kernel
theorem dX7_aboutEachWait_11 : decode cX7_aboutEachWait 11 = .ok (.iconst 0, 1) := by decide +kernel
theorem dX7_aboutEachWait_12 : decode cX7_aboutEachWait 12 = .ok (.istore_n 2, 1) := by decide +kernel
theorem dX7_aboutEachWait_13 : decode cX7_aboutEachWait 13 = .ok (.iconst 0, 1) := by decide +kernel
theorem dX7_aboutEachWait_14 : decode cX7_aboutEachWait 14 = .ok (.istore_n 3, 1) := by decide +kernel
theorem dX7_aboutEachWait_15 : decode cX7_aboutEachWait 15 = .ok (.iconst 0, 1) := by decide +kernel
theorem dX7_aboutEachWait_16 : decode cX7_aboutEachWait 16 = .ok (.istore 4, 2) := by decide +kernel
theorem dX7_aboutEachWait_18 : decode cX7_aboutEachWait 18 = .ok (.iconst 0, 1) := by decide +kernel
theorem dX7_aboutEachWait_19 : decode cX7_aboutEachWait 19 = .ok (.istore 5, 2) := by decide +kernel
theorem dX7_aboutEachWait_21 : decode cX7_aboutEachWait 21 = .ok (.iload 5, 2) := by decide +kernel
theorem dX7_aboutEachWait_23 : decode cX7_aboutEachWait 23 = .ok (.aload_n 0, 1) := by decide +kernel
theorem dX7_aboutEachWait_24 : decode cX7_aboutEachWait 24 = .ok (.getfield 16, 3) := by decide +kernel
theorem dX7_aboutEachWait_27 : decode cX7_aboutEachWait 27 = .ok (.getfield 92, 3) := by decide +kernel
theorem dX7_aboutEachWait_30 : decode cX7_aboutEachWait 30 = .ok (.if_icmp .ge 93, 3) := by decide +kernel
theorem dX7_aboutEachWait_33 : decode cX7_aboutEachWait 33 = .ok (.iconst 0, 1) := by decide +kernel
theorem dX7_aboutEachWait_34 : decode cX7_aboutEachWait 34 = .ok (.istore 6, 2) := by decide +kernel
theorem dX7_aboutEachWait_36 : decode cX7_aboutEachWait 36 = .ok (.iload 6, 2) := by decide +kernel
theorem dX7_aboutEachWait_38 : decode cX7_aboutEachWait 38 = .ok (.aload_n 0, 1) := by decide +kernel
theorem dX7_aboutEachWait_39 : decode cX7_aboutEachWait 39 = .ok (.getfield 16, 3) := by decide +kernel
theorem dX7_aboutEachWait_42 : decode cX7_aboutEachWait 42 = .ok (.getfield 92, 3) := by decide +kernel
theorem dX7_aboutEachWait_45 : decode cX7_aboutEachWait 45 = .ok (.if_icmp .ge 72, 3) := by decide +kernel
theorem dX7_aboutEachWait_48 : decode cX7_aboutEachWait 48 = .ok (.aload_n 0, 1) := by decide +kernel
theorem dX7_aboutEachWait_49 : decode cX7_aboutEachWait 49 = .ok (.getfield 16, 3) := by decide +kernel
theorem dX7_aboutEachWait_52 : decode cX7_aboutEachWait 52 = .ok (.iload 5, 2) := by decide +kernel
theorem dX7_aboutEachWait_54 : decode cX7_aboutEachWait 54 = .ok (.iload 6, 2) := by decide +kernel
theorem dX7_aboutEachWait_56 : decode cX7_aboutEachWait 56 = .ok (.invokevirtual 116, 3) := by decide +kernel
theorem dX7_aboutEachWait_59 : decode cX7_aboutEachWait 59 = .ok (.bipush (-9), 2) := by decide +kernel
theorem dX7_aboutEachWait_61 : decode cX7_aboutEachWait 61 = .ok (.if_icmp .eq 20, 3) := by decide +kernel
theorem dX7_aboutEachWait_64 : decode cX7_aboutEachWait 64 = .ok (.aload_n 0, 1) := by decide +kernel
theorem dX7_aboutEachWait_65 : decode cX7_aboutEachWait 65 = .ok (.getfield 55, 3) := by decide +kernel
theorem dX7_aboutEachWait_68 : decode cX7_aboutEachWait 68 = .ok (.iload 5, 2) := by decide +kernel
theorem dX7_aboutEachWait_70 : decode cX7_aboutEachWait 70 = .ok (.iload 6, 2) := by decide +kernel
theorem dX7_aboutEachWait_72 : decode cX7_aboutEachWait 72 = .ok (.invokevirtual 213, 3) := by decide +kernel
theorem dX7_aboutEachWait_75 : decode cX7_aboutEachWait 75 = .ok (.ifCond .ne 6, 3) := by decide +kernel
theorem dX7_aboutEachWait_78 : decode cX7_aboutEachWait 78 = .ok (.iinc 2 1, 3) := by decide +kernel
theorem dX7_aboutEachWait_81 : decode cX7_aboutEachWait 81 = .ok (.aload_n 0, 1) := by decide +kernel
theorem dX7_aboutEachWait_82 : decode cX7_aboutEachWait 82 = .ok (.getfield 55, 3) := by decide +kernel
theorem dX7_aboutEachWait_85 : decode cX7_aboutEachWait 85 = .ok (.aload_n 0, 1) := by decide +kernel
theorem dX7_aboutEachWait_86 : decode cX7_aboutEachWait 86 = .ok (.getfield 16, 3) := by decide +kernel
theorem dX7_aboutEachWait_89 : decode cX7_aboutEachWait 89 = .ok (.iload 5, 2) := by decide +kernel
theorem dX7_aboutEachWait_91 : decode cX7_aboutEachWait 91 = .ok (.iload 6, 2) := by decide +kernel
theorem dX7_aboutEachWait_93 : decode cX7_aboutEachWait 93 = .ok (.invokevirtual 138, 3) := by decide +kernel
theorem dX7_aboutEachWait_96 : decode cX7_aboutEachWait 96 = .ok (.ifCond .eq 15, 3) := by decide +kernel
theorem dX7_aboutEachWait_99 : decode cX7_aboutEachWait 99 = .ok (.iinc 3 1, 3) := by decide +kernel
theorem dX7_aboutEachWait_102 : decode cX7_aboutEachWait 102 = .ok (.iload 4, 2) := by decide +kernel
theorem dX7_aboutEachWait_104 : decode cX7_aboutEachWait 104 = .ok (.iconst 1, 1) := by decide +kernel
theorem dX7_aboutEachWait_105 : decode cX7_aboutEachWait 105 = .ok (.iload 5, 2) := by decide +kernel
theorem dX7_aboutEachWait_107 : decode cX7_aboutEachWait 107 = .ok (.ishl, 1) := by decide +kernel
theorem dX7_aboutEachWait_108 : decode cX7_aboutEachWait 108 = .ok (.ior, 1) := by decide +kernel
theorem dX7_aboutEachWait_109 : decode cX7_aboutEachWait 109 = .ok (.istore 4, 2) := by decide +kernel
theorem dX7_aboutEachWait_111 : decode cX7_aboutEachWait 111 = .ok (.iinc 6 1, 3) := by decide +kernel
theorem dX7_aboutEachWait_114 : decode cX7_aboutEachWait 114 = .ok (.goto (-78), 3) := by decide +kernel
theorem dX7_aboutEachWait_117 : decode cX7_aboutEachWait 117 = .ok (.iinc 5 1, 3) := by decide +kernel
theorem dX7_aboutEachWait_120 : decode cX7_aboutEachWait 120 = .ok (.goto (-99), 3) := by decide +kernel
theorem dX7_aboutEachWait_123 : decode cX7_aboutEachWait 123 = .ok (.iload_n 1, 1) := by decide +kernel
theorem dX7_aboutEachWait_124 : decode cX7_aboutEachWait 124 = .ok (.iconst 3, 1) := by decide +kernel
theorem dX7_aboutEachWait_125 : decode cX7_aboutEachWait 125 = .ok (.if_icmp .ne 7, 3) := by decide +kernel
theorem dX7_aboutEachWait_128 : decode cX7_aboutEachWait 128 = .ok (.iload_n 2, 1) := by decide +kernel
theorem dX7_aboutEachWait_129 : decode cX7_aboutEachWait 129 = .ok (.goto 14, 3) := by decide +kernel
theorem dX7_aboutEachWait_132 : decode cX7_aboutEachWait 132 = .ok (.iload_n 1, 1) := by decide +kernel
theorem dX7_aboutEachWait_133 : decode cX7_aboutEachWait 133 = .ok (.iconst 4, 1) := by decide +kernel
theorem dX7_aboutEachWait_134 : decode cX7_aboutEachWait 134 = .ok (.if_icmp .ne 7, 3) := by decide +kernel
theorem dX7_aboutEachWait_137 : decode cX7_aboutEachWait 137 = .ok (.iload_n 3, 1) := by decide +kernel
theorem dX7_aboutEachWait_138 : decode cX7_aboutEachWait 138 = .ok (.goto 5, 3) := by decide +kernel
theorem dX7_aboutEachWait_141 : decode cX7_aboutEachWait 141 = .ok (.iload 4, 2) := by decide +kernel
theorem dX7_aboutEachWait_143 : decode cX7_aboutEachWait 143 = .ok (.ireturn, 1) := by decide +kernel
theorem dX7_leastPeriod_0 : decode cX7_leastPeriod 0 = .ok (.iconst 0, 1) := by decide +kernel
theorem dX7_leastPeriod_1 : decode cX7_leastPeriod 1 = .ok (.aload_n 0, 1) := by decide +kernel
theorem dX7_leastPeriod_2 : decode cX7_leastPeriod 2 = .ok (.getfield 55, 3) := by decide +kernel
theorem dX7_leastPeriod_5 : decode cX7_leastPeriod 5 = .ok (.aload_n 0, 1) := by decide +kernel
theorem dX7_leastPeriod_6 : decode cX7_leastPeriod 6 = .ok (.getfield 16, 3) := by decide +kernel
theorem dX7_leastPeriod_9 : decode cX7_leastPeriod 9 = .ok (.invokevirtual 127, 3) := by decide +kernel
theorem dX7_leastPeriod_12 : decode cX7_leastPeriod 12 = .ok (.invokestatic 205, 3) := by decide +kernel
theorem dX7_leastPeriod_15 : decode cX7_leastPeriod 15 = .ok (.istore_n 1, 1) := by decide +kernel
theorem dX7_leastPeriod_16 : decode cX7_leastPeriod 16 = .ok (.iload_n 1, 1) := by decide +kernel
theorem dX7_leastPeriod_17 : decode cX7_leastPeriod 17 = .ok (.bipush 60, 2) := by decide +kernel
theorem dX7_leastPeriod_19 : decode cX7_leastPeriod 19 = .ok (.iadd, 1) := by decide +kernel
theorem dX7_leastPeriod_20 : decode cX7_leastPeriod 20 = .ok (.iconst 1, 1) := by decide +kernel
theorem dX7_leastPeriod_21 : decode cX7_leastPeriod 21 = .ok (.isub, 1) := by decide +kernel
theorem dX7_leastPeriod_22 : decode cX7_leastPeriod 22 = .ok (.bipush 60, 2) := by decide +kernel
theorem dX7_leastPeriod_24 : decode cX7_leastPeriod 24 = .ok (.idiv, 1) := by decide +kernel
theorem dX7_leastPeriod_25 : decode cX7_leastPeriod 25 = .ok (.ireturn, 1) := by decide +kernel
theorem dX7_lastsUntil_0 : decode cX7_lastsUntil 0 = .ok (.aload_n 0, 1) := by decide +kernel
theorem dX7_lastsUntil_1 : decode cX7_lastsUntil 1 = .ok (.getfield 62, 3) := by decide +kernel
theorem dX7_lastsUntil_4 : decode cX7_lastsUntil 4 = .ok (.aload_n 1, 1) := by decide +kernel
theorem dX7_lastsUntil_5 : decode cX7_lastsUntil 5 = .ok (.iload 4, 2) := by decide +kernel
theorem dX7_lastsUntil_7 : decode cX7_lastsUntil 7 = .ok (.invokevirtual 146, 3) := by decide +kernel
theorem dX7_lastsUntil_10 : decode cX7_lastsUntil 10 = .ok (.aload_n 0, 1) := by decide +kernel
theorem dX7_lastsUntil_11 : decode cX7_lastsUntil 11 = .ok (.getfield 62, 3) := by decide +kernel
theorem dX7_lastsUntil_14 : decode cX7_lastsUntil 14 = .ok (.aload_n 1, 1) := by decide +kernel
theorem dX7_lastsUntil_15 : decode cX7_lastsUntil 15 = .ok (.iload_n 2, 1) := by decide +kernel
theorem dX7_lastsUntil_16 : decode cX7_lastsUntil 16 = .ok (.bipush 40, 2) := by decide +kernel
theorem dX7_lastsUntil_18 : decode cX7_lastsUntil 18 = .ok (.invokevirtual 157, 3) := by decide +kernel
theorem dX7_lastsUntil_21 : decode cX7_lastsUntil 21 = .ok (.aload_n 0, 1) := by decide +kernel
theorem dX7_lastsUntil_22 : decode cX7_lastsUntil 22 = .ok (.getfield 62, 3) := by decide +kernel
theorem dX7_lastsUntil_25 : decode cX7_lastsUntil 25 = .ok (.iload_n 3, 1) := by decide +kernel
theorem dX7_lastsUntil_26 : decode cX7_lastsUntil 26 = .ok (.aload_n 1, 1) := by decide +kernel
theorem dX7_lastsUntil_27 : decode cX7_lastsUntil 27 = .ok (.getfield 92, 3) := by decide +kernel
theorem dX7_lastsUntil_30 : decode cX7_lastsUntil 30 = .ok (.invokevirtual 217, 3) := by decide +kernel
theorem dX7_lastsUntil_33 : decode cX7_lastsUntil 33 = .ok (.ireturn, 1) := by decide +kernel
theorem dX7_figuresOf_0 : decode cX7_figuresOf 0 = .ok (.lload_n 0, 1) := by decide +kernel
theorem dX7_figuresOf_1 : decode cX7_figuresOf 1 = .ok (.lstore_n 3, 1) := by decide +kernel
theorem dX7_figuresOf_2 : decode cX7_figuresOf 2 = .ok (.iconst 0, 1) := by decide +kernel
theorem dX7_figuresOf_3 : decode cX7_figuresOf 3 = .ok (.istore 5, 2) := by decide +kernel
theorem dX7_figuresOf_5 : decode cX7_figuresOf 5 = .ok (.iload 5, 2) := by decide +kernel
theorem dX7_figuresOf_7 : decode cX7_figuresOf 7 = .ok (.iload_n 2, 1) := by decide +kernel
theorem dX7_figuresOf_8 : decode cX7_figuresOf 8 = .ok (.if_icmp .ge 15, 3) := by decide +kernel
theorem dX7_figuresOf_11 : decode cX7_figuresOf 11 = .ok (.lload_n 3, 1) := by decide +kernel
theorem dX7_figuresOf_12 : decode cX7_figuresOf 12 = .ok (.ldc2_w 220, 3) := by decide +kernel
theorem dX7_figuresOf_15 : decode cX7_figuresOf 15 = .ok (.ldiv, 1) := by decide +kernel
theorem dX7_figuresOf_16 : decode cX7_figuresOf 16 = .ok (.lstore_n 3, 1) := by decide +kernel
theorem dX7_figuresOf_17 : decode cX7_figuresOf 17 = .ok (.iinc 5 1, 3) := by decide +kernel
theorem dX7_figuresOf_20 : decode cX7_figuresOf 20 = .ok (.goto (-15), 3) := by decide +kernel
theorem dX7_figuresOf_23 : decode cX7_figuresOf 23 = .ok (.lload_n 3, 1) := by decide +kernel
theorem dX7_figuresOf_24 : decode cX7_figuresOf 24 = .ok (.ldc2_w 220, 3) := by decide +kernel
theorem dX7_figuresOf_27 : decode cX7_figuresOf 27 = .ok (.lrem, 1) := by decide +kernel
theorem dX7_figuresOf_28 : decode cX7_figuresOf 28 = .ok (.l2i, 1) := by decide +kernel
theorem dX7_figuresOf_29 : decode cX7_figuresOf 29 = .ok (.ireturn, 1) := by decide +kernel
theorem dX7_holds_0 : decode cX7_holds 0 = .ok (.iload_n 1, 1) := by decide +kernel
theorem dX7_holds_1 : decode cX7_holds 1 = .ok (.bipush 100, 2) := by decide +kernel
theorem dX7_holds_3 : decode cX7_holds 3 = .ok (.idiv, 1) := by decide +kernel
theorem dX7_holds_4 : decode cX7_holds 4 = .ok (.bipush 10, 2) := by decide +kernel
theorem dX7_holds_6 : decode cX7_holds 6 = .ok (.irem, 1) := by decide +kernel
theorem dX7_holds_7 : decode cX7_holds 7 = .ok (.istore_n 2, 1) := by decide +kernel
theorem dX7_holds_8 : decode cX7_holds 8 = .ok (.iload_n 1, 1) := by decide +kernel
theorem dX7_holds_9 : decode cX7_holds 9 = .ok (.bipush 10, 2) := by decide +kernel
theorem dX7_holds_11 : decode cX7_holds 11 = .ok (.idiv, 1) := by decide +kernel
theorem dX7_holds_12 : decode cX7_holds 12 = .ok (.bipush 10, 2) := by decide +kernel
theorem dX7_holds_14 : decode cX7_holds 14 = .ok (.irem, 1) := by decide +kernel
theorem dX7_holds_15 : decode cX7_holds 15 = .ok (.istore_n 3, 1) := by decide +kernel
theorem dX7_holds_16 : decode cX7_holds 16 = .ok (.iload_n 1, 1) := by decide +kernel
theorem dX7_holds_17 : decode cX7_holds 17 = .ok (.bipush 10, 2) := by decide +kernel
theorem dX7_holds_19 : decode cX7_holds 19 = .ok (.irem, 1) := by decide +kernel
theorem dX7_holds_20 : decode cX7_holds 20 = .ok (.istore 4, 2) := by decide +kernel
theorem dX7_holds_22 : decode cX7_holds 22 = .ok (.bipush 10, 2) := by decide +kernel
theorem dX7_holds_24 : decode cX7_holds 24 = .ok (.iload_n 3, 1) := by decide +kernel
theorem dX7_holds_25 : decode cX7_holds 25 = .ok (.imul, 1) := by decide +kernel
theorem dX7_holds_26 : decode cX7_holds 26 = .ok (.iload 4, 2) := by decide +kernel
theorem dX7_holds_28 : decode cX7_holds 28 = .ok (.iadd, 1) := by decide +kernel
theorem dX7_holds_29 : decode cX7_holds 29 = .ok (.istore 5, 2) := by decide +kernel
theorem dX7_holds_31 : decode cX7_holds 31 = .ok (.aload_n 0, 1) := by decide +kernel
theorem dX7_holds_32 : decode cX7_holds 32 = .ok (.getfield 20, 3) := by decide +kernel
theorem dX7_holds_35 : decode cX7_holds 35 = .ok (.iload_n 2, 1) := by decide +kernel
theorem dX7_holds_36 : decode cX7_holds 36 = .ok (.iload_n 3, 1) := by decide +kernel
theorem dX7_holds_37 : decode cX7_holds 37 = .ok (.invokevirtual 116, 3) := by decide +kernel
theorem dX7_holds_40 : decode cX7_holds 40 = .ok (.bipush (-9), 2) := by decide +kernel
theorem dX7_holds_42 : decode cX7_holds 42 = .ok (.if_icmp .eq 7, 3) := by decide +kernel
theorem dX7_holds_45 : decode cX7_holds 45 = .ok (.iconst 1, 1) := by decide +kernel
theorem dX7_holds_46 : decode cX7_holds 46 = .ok (.goto 4, 3) := by decide +kernel
theorem dX7_holds_49 : decode cX7_holds 49 = .ok (.iconst 0, 1) := by decide +kernel
theorem dX7_holds_50 : decode cX7_holds 50 = .ok (.istore 6, 2) := by decide +kernel
theorem dX7_holds_52 : decode cX7_holds 52 = .ok (.iload_n 1, 1) := by decide +kernel
theorem dX7_holds_53 : decode cX7_holds 53 = .ok (.sipush 1000, 3) := by decide +kernel
theorem dX7_holds_56 : decode cX7_holds 56 = .ok (.idiv, 1) := by decide +kernel
theorem dX7_holds_57 : decode cX7_holds 57 = .ok (.tableswitch 270 1 7 #[43, 90, 120, 145, 178, 216, 243], 43) := by decide +kernel
theorem dX7_holds_100 : decode cX7_holds 100 = .ok (.aload_n 0, 1) := by decide +kernel
theorem dX7_holds_101 : decode cX7_holds 101 = .ok (.getfield 20, 3) := by decide +kernel
theorem dX7_holds_104 : decode cX7_holds 104 = .ok (.iload_n 2, 1) := by decide +kernel
theorem dX7_holds_105 : decode cX7_holds 105 = .ok (.invokevirtual 112, 3) := by decide +kernel
theorem dX7_holds_108 : decode cX7_holds 108 = .ok (.ifCond .eq 37, 3) := by decide +kernel
theorem dX7_holds_111 : decode cX7_holds 111 = .ok (.aload_n 0, 1) := by decide +kernel
theorem dX7_holds_112 : decode cX7_holds 112 = .ok (.getfield 20, 3) := by decide +kernel
theorem dX7_holds_115 : decode cX7_holds 115 = .ok (.iload_n 3, 1) := by decide +kernel
theorem dX7_holds_116 : decode cX7_holds 116 = .ok (.invokevirtual 112, 3) := by decide +kernel
theorem dX7_holds_119 : decode cX7_holds 119 = .ok (.ifCond .eq 26, 3) := by decide +kernel
theorem dX7_holds_122 : decode cX7_holds 122 = .ok (.iload 6, 2) := by decide +kernel
theorem dX7_holds_124 : decode cX7_holds 124 = .ok (.ifCond .ne 21, 3) := by decide +kernel
theorem dX7_holds_127 : decode cX7_holds 127 = .ok (.aload_n 0, 1) := by decide +kernel
theorem dX7_holds_128 : decode cX7_holds 128 = .ok (.getfield 20, 3) := by decide +kernel
theorem dX7_holds_131 : decode cX7_holds 131 = .ok (.iload_n 2, 1) := by decide +kernel
theorem dX7_holds_132 : decode cX7_holds 132 = .ok (.iload_n 3, 1) := by decide +kernel
theorem dX7_holds_133 : decode cX7_holds 133 = .ok (.iload 4, 2) := by decide +kernel
theorem dX7_holds_135 : decode cX7_holds 135 = .ok (.invokevirtual 169, 3) := by decide +kernel
theorem dX7_holds_138 : decode cX7_holds 138 = .ok (.ifCond .eq 7, 3) := by decide +kernel
theorem dX7_holds_141 : decode cX7_holds 141 = .ok (.iconst 1, 1) := by decide +kernel
theorem dX7_holds_142 : decode cX7_holds 142 = .ok (.goto 4, 3) := by decide +kernel
theorem dX7_holds_145 : decode cX7_holds 145 = .ok (.iconst 0, 1) := by decide +kernel
theorem dX7_holds_146 : decode cX7_holds 146 = .ok (.ireturn, 1) := by decide +kernel
theorem dX7_holds_147 : decode cX7_holds 147 = .ok (.iload 6, 2) := by decide +kernel
theorem dX7_holds_149 : decode cX7_holds 149 = .ok (.ifCond .eq 26, 3) := by decide +kernel
theorem dX7_holds_152 : decode cX7_holds 152 = .ok (.iload 4, 2) := by decide +kernel
theorem dX7_holds_154 : decode cX7_holds 154 = .ok (.ifCond .ne 21, 3) := by decide +kernel
theorem dX7_holds_157 : decode cX7_holds 157 = .ok (.aload_n 0, 1) := by decide +kernel
theorem dX7_holds_158 : decode cX7_holds 158 = .ok (.getfield 20, 3) := by decide +kernel
theorem dX7_holds_161 : decode cX7_holds 161 = .ok (.iload_n 2, 1) := by decide +kernel
theorem dX7_holds_162 : decode cX7_holds 162 = .ok (.iload_n 3, 1) := by decide +kernel
theorem dX7_holds_163 : decode cX7_holds 163 = .ok (.bipush (-9), 2) := by decide +kernel
theorem dX7_holds_165 : decode cX7_holds 165 = .ok (.invokevirtual 169, 3) := by decide +kernel
theorem dX7_holds_168 : decode cX7_holds 168 = .ok (.ifCond .eq 7, 3) := by decide +kernel
theorem dX7_holds_171 : decode cX7_holds 171 = .ok (.iconst 1, 1) := by decide +kernel
theorem dX7_holds_172 : decode cX7_holds 172 = .ok (.goto 4, 3) := by decide +kernel
theorem dX7_holds_175 : decode cX7_holds 175 = .ok (.iconst 0, 1) := by decide +kernel
theorem dX7_holds_176 : decode cX7_holds 176 = .ok (.ireturn, 1) := by decide +kernel
theorem dX7_holds_177 : decode cX7_holds 177 = .ok (.iload 6, 2) := by decide +kernel
theorem dX7_holds_179 : decode cX7_holds 179 = .ok (.ifCond .eq 21, 3) := by decide +kernel
theorem dX7_holds_182 : decode cX7_holds 182 = .ok (.aload_n 0, 1) := by decide +kernel
theorem dX7_holds_183 : decode cX7_holds 183 = .ok (.getfield 20, 3) := by decide +kernel
theorem dX7_holds_186 : decode cX7_holds 186 = .ok (.iload_n 2, 1) := by decide +kernel
theorem dX7_holds_187 : decode cX7_holds 187 = .ok (.iload_n 3, 1) := by decide +kernel
theorem dX7_holds_188 : decode cX7_holds 188 = .ok (.iload 4, 2) := by decide +kernel
theorem dX7_holds_190 : decode cX7_holds 190 = .ok (.invokevirtual 169, 3) := by decide +kernel
theorem dX7_holds_193 : decode cX7_holds 193 = .ok (.ifCond .eq 7, 3) := by decide +kernel
theorem dX7_holds_196 : decode cX7_holds 196 = .ok (.iconst 1, 1) := by decide +kernel
theorem dX7_holds_197 : decode cX7_holds 197 = .ok (.goto 4, 3) := by decide +kernel
theorem dX7_holds_200 : decode cX7_holds 200 = .ok (.iconst 0, 1) := by decide +kernel
theorem dX7_holds_201 : decode cX7_holds 201 = .ok (.ireturn, 1) := by decide +kernel
theorem dX7_holds_202 : decode cX7_holds 202 = .ok (.iload_n 2, 1) := by decide +kernel
theorem dX7_holds_203 : decode cX7_holds 203 = .ok (.ifCond .ne 30, 3) := by decide +kernel
theorem dX7_holds_206 : decode cX7_holds 206 = .ok (.iload 5, 2) := by decide +kernel
theorem dX7_holds_208 : decode cX7_holds 208 = .ok (.bipush 20, 2) := by decide +kernel
theorem dX7_holds_210 : decode cX7_holds 210 = .ok (.if_icmp .gt 23, 3) := by decide +kernel
theorem dX7_holds_213 : decode cX7_holds 213 = .ok (.aload_n 0, 1) := by decide +kernel
theorem dX7_holds_214 : decode cX7_holds 214 = .ok (.getfield 55, 3) := by decide +kernel
theorem dX7_holds_217 : decode cX7_holds 217 = .ok (.aload_n 0, 1) := by decide +kernel
theorem dX7_holds_218 : decode cX7_holds 218 = .ok (.getfield 20, 3) := by decide +kernel
theorem dX7_holds_221 : decode cX7_holds 221 = .ok (.iload 5, 2) := by decide +kernel
theorem dX7_holds_223 : decode cX7_holds 223 = .ok (.invokevirtual 142, 3) := by decide +kernel
theorem dX7_holds_226 : decode cX7_holds 226 = .ok (.ifCond .eq 7, 3) := by decide +kernel
theorem dX7_holds_229 : decode cX7_holds 229 = .ok (.iconst 1, 1) := by decide +kernel
theorem dX7_holds_230 : decode cX7_holds 230 = .ok (.goto 4, 3) := by decide +kernel
theorem dX7_holds_233 : decode cX7_holds 233 = .ok (.iconst 0, 1) := by decide +kernel
theorem dX7_holds_234 : decode cX7_holds 234 = .ok (.ireturn, 1) := by decide +kernel
theorem dX7_holds_235 : decode cX7_holds 235 = .ok (.aload_n 0, 1) := by decide +kernel
theorem dX7_holds_236 : decode cX7_holds 236 = .ok (.getfield 55, 3) := by decide +kernel
theorem dX7_holds_239 : decode cX7_holds 239 = .ok (.aload_n 0, 1) := by decide +kernel
theorem dX7_holds_240 : decode cX7_holds 240 = .ok (.getfield 20, 3) := by decide +kernel
theorem dX7_holds_243 : decode cX7_holds 243 = .ok (.invokevirtual 135, 3) := by decide +kernel
theorem dX7_holds_246 : decode cX7_holds 246 = .ok (.iload 4, 2) := by decide +kernel
theorem dX7_holds_248 : decode cX7_holds 248 = .ok (.ifCond .ne 23, 3) := by decide +kernel
theorem dX7_holds_251 : decode cX7_holds 251 = .ok (.aload_n 0, 1) := by decide +kernel
theorem dX7_holds_252 : decode cX7_holds 252 = .ok (.getfield 55, 3) := by decide +kernel
theorem dX7_holds_255 : decode cX7_holds 255 = .ok (.aload_n 0, 1) := by decide +kernel
theorem dX7_holds_256 : decode cX7_holds 256 = .ok (.getfield 20, 3) := by decide +kernel
theorem dX7_holds_259 : decode cX7_holds 259 = .ok (.iload_n 2, 1) := by decide +kernel
theorem dX7_holds_260 : decode cX7_holds 260 = .ok (.iload_n 3, 1) := by decide +kernel
theorem dX7_holds_261 : decode cX7_holds 261 = .ok (.invokevirtual 138, 3) := by decide +kernel
theorem dX7_holds_264 : decode cX7_holds 264 = .ok (.ifCond .eq 7, 3) := by decide +kernel
theorem dX7_holds_267 : decode cX7_holds 267 = .ok (.iconst 1, 1) := by decide +kernel
theorem dX7_holds_268 : decode cX7_holds 268 = .ok (.goto 4, 3) := by decide +kernel
theorem dX7_holds_271 : decode cX7_holds 271 = .ok (.iconst 0, 1) := by decide +kernel
theorem dX7_holds_272 : decode cX7_holds 272 = .ok (.ireturn, 1) := by decide +kernel
theorem dX7_holds_273 : decode cX7_holds 273 = .ok (.aload_n 0, 1) := by decide +kernel
theorem dX7_holds_274 : decode cX7_holds 274 = .ok (.getfield 20, 3) := by decide +kernel
theorem dX7_holds_277 : decode cX7_holds 277 = .ok (.iload_n 2, 1) := by decide +kernel
theorem dX7_holds_278 : decode cX7_holds 278 = .ok (.invokevirtual 112, 3) := by decide +kernel
theorem dX7_holds_281 : decode cX7_holds 281 = .ok (.ifCond .eq 17, 3) := by decide +kernel
theorem dX7_holds_284 : decode cX7_holds 284 = .ok (.aload_n 0, 1) := by decide +kernel
theorem dX7_holds_285 : decode cX7_holds 285 = .ok (.iload_n 2, 1) := by decide +kernel
theorem dX7_holds_286 : decode cX7_holds 286 = .ok (.iload 5, 2) := by decide +kernel
theorem dX7_holds_288 : decode cX7_holds 288 = .ok (.invokevirtual 222, 3) := by decide +kernel
theorem dX7_holds_291 : decode cX7_holds 291 = .ok (.ifCond .eq 7, 3) := by decide +kernel
theorem dX7_holds_294 : decode cX7_holds 294 = .ok (.iconst 1, 1) := by decide +kernel
theorem dX7_holds_295 : decode cX7_holds 295 = .ok (.goto 4, 3) := by decide +kernel
theorem dX7_holds_298 : decode cX7_holds 298 = .ok (.iconst 0, 1) := by decide +kernel
theorem dX7_holds_299 : decode cX7_holds 299 = .ok (.ireturn, 1) := by decide +kernel
theorem dX7_holds_300 : decode cX7_holds 300 = .ok (.aload_n 0, 1) := by decide +kernel
theorem dX7_holds_301 : decode cX7_holds 301 = .ok (.getfield 20, 3) := by decide +kernel
theorem dX7_holds_304 : decode cX7_holds 304 = .ok (.iload_n 2, 1) := by decide +kernel
theorem dX7_holds_305 : decode cX7_holds 305 = .ok (.invokevirtual 112, 3) := by decide +kernel
theorem dX7_holds_308 : decode cX7_holds 308 = .ok (.ifCond .eq 17, 3) := by decide +kernel
theorem dX7_holds_311 : decode cX7_holds 311 = .ok (.aload_n 0, 1) := by decide +kernel
theorem dX7_holds_312 : decode cX7_holds 312 = .ok (.iload_n 2, 1) := by decide +kernel
theorem dX7_holds_313 : decode cX7_holds 313 = .ok (.iload 5, 2) := by decide +kernel
theorem dX7_holds_315 : decode cX7_holds 315 = .ok (.invokevirtual 225, 3) := by decide +kernel
theorem dX7_holds_318 : decode cX7_holds 318 = .ok (.ifCond .eq 7, 3) := by decide +kernel
theorem dX7_holds_321 : decode cX7_holds 321 = .ok (.iconst 1, 1) := by decide +kernel
theorem dX7_holds_322 : decode cX7_holds 322 = .ok (.goto 4, 3) := by decide +kernel
theorem dX7_holds_325 : decode cX7_holds 325 = .ok (.iconst 0, 1) := by decide +kernel
theorem dX7_holds_326 : decode cX7_holds 326 = .ok (.ireturn, 1) := by decide +kernel
theorem dX7_holds_327 : decode cX7_holds 327 = .ok (.iconst 0, 1) := by decide +kernel
theorem dX7_holds_328 : decode cX7_holds 328 = .ok (.ireturn, 1) := by decide +kernel
theorem dX7_departsAt_0 : decode cX7_departsAt 0 = .ok (.aload_n 0, 1) := by decide +kernel
theorem dX7_departsAt_1 : decode cX7_departsAt 1 = .ok (.getfield 55, 3) := by decide +kernel
theorem dX7_departsAt_4 : decode cX7_departsAt 4 = .ok (.aload_n 0, 1) := by decide +kernel
theorem dX7_departsAt_5 : decode cX7_departsAt 5 = .ok (.getfield 20, 3) := by decide +kernel
theorem dX7_departsAt_8 : decode cX7_departsAt 8 = .ok (.bipush 10, 2) := by decide +kernel
theorem dX7_departsAt_10 : decode cX7_departsAt 10 = .ok (.invokevirtual 142, 3) := by decide +kernel
theorem dX7_departsAt_13 : decode cX7_departsAt 13 = .ok (.ifCond .ne 5, 3) := by decide +kernel
theorem dX7_departsAt_16 : decode cX7_departsAt 16 = .ok (.iconst 0, 1) := by decide +kernel
theorem dX7_departsAt_17 : decode cX7_departsAt 17 = .ok (.ireturn, 1) := by decide +kernel
theorem dX7_departsAt_18 : decode cX7_departsAt 18 = .ok (.aload_n 0, 1) := by decide +kernel
theorem dX7_departsAt_19 : decode cX7_departsAt 19 = .ok (.getfield 62, 3) := by decide +kernel
theorem dX7_departsAt_22 : decode cX7_departsAt 22 = .ok (.aload_n 0, 1) := by decide +kernel
theorem dX7_departsAt_23 : decode cX7_departsAt 23 = .ok (.getfield 20, 3) := by decide +kernel
theorem dX7_departsAt_26 : decode cX7_departsAt 26 = .ok (.bipush 10, 2) := by decide +kernel
theorem dX7_departsAt_28 : decode cX7_departsAt 28 = .ok (.invokevirtual 146, 3) := by decide +kernel
theorem dX7_departsAt_31 : decode cX7_departsAt 31 = .ok (.aload_n 0, 1) := by decide +kernel
theorem dX7_departsAt_32 : decode cX7_departsAt 32 = .ok (.getfield 62, 3) := by decide +kernel
theorem dX7_departsAt_35 : decode cX7_departsAt 35 = .ok (.iload_n 1, 1) := by decide +kernel
theorem dX7_departsAt_36 : decode cX7_departsAt 36 = .ok (.invokevirtual 150, 3) := by decide +kernel
theorem dX7_departsAt_39 : decode cX7_departsAt 39 = .ok (.iload_n 2, 1) := by decide +kernel
theorem dX7_departsAt_40 : decode cX7_departsAt 40 = .ok (.if_icmp .ne 7, 3) := by decide +kernel
theorem dX7_departsAt_43 : decode cX7_departsAt 43 = .ok (.iconst 1, 1) := by decide +kernel
theorem dX7_departsAt_44 : decode cX7_departsAt 44 = .ok (.goto 4, 3) := by decide +kernel
theorem dX7_departsAt_47 : decode cX7_departsAt 47 = .ok (.iconst 0, 1) := by decide +kernel
theorem dX7_departsAt_48 : decode cX7_departsAt 48 = .ok (.ireturn, 1) := by decide +kernel
theorem dX7_isOver_0 : decode cX7_isOver 0 = .ok (.iload_n 2, 1) := by decide +kernel
theorem dX7_isOver_1 : decode cX7_isOver 1 = .ok (.iconst 1, 1) := by decide +kernel
theorem dX7_isOver_2 : decode cX7_isOver 2 = .ok (.if_icmp .lt 25, 3) := by decide +kernel
theorem dX7_isOver_5 : decode cX7_isOver 5 = .ok (.iload_n 2, 1) := by decide +kernel
theorem dX7_isOver_6 : decode cX7_isOver 6 = .ok (.bipush 30, 2) := by decide +kernel
theorem dX7_isOver_8 : decode cX7_isOver 8 = .ok (.if_icmp .gt 19, 3) := by decide +kernel
theorem dX7_isOver_11 : decode cX7_isOver 11 = .ok (.aload_n 0, 1) := by decide +kernel
theorem dX7_isOver_12 : decode cX7_isOver 12 = .ok (.getfield 55, 3) := by decide +kernel
theorem dX7_isOver_15 : decode cX7_isOver 15 = .ok (.aload_n 0, 1) := by decide +kernel
theorem dX7_isOver_16 : decode cX7_isOver 16 = .ok (.getfield 20, 3) := by decide +kernel
theorem dX7_isOver_19 : decode cX7_isOver 19 = .ok (.bipush 10, 2) := by decide +kernel
theorem dX7_isOver_21 : decode cX7_isOver 21 = .ok (.invokevirtual 142, 3) := by decide +kernel
theorem dX7_isOver_24 : decode cX7_isOver 24 = .ok (.ifCond .ne 5, 3) := by decide +kernel
theorem dX7_isOver_27 : decode cX7_isOver 27 = .ok (.iconst 0, 1) := by decide +kernel
theorem dX7_isOver_28 : decode cX7_isOver 28 = .ok (.ireturn, 1) := by decide +kernel
theorem dX7_isOver_29 : decode cX7_isOver 29 = .ok (.aload_n 0, 1) := by decide +kernel
theorem dX7_isOver_30 : decode cX7_isOver 30 = .ok (.aload_n 0, 1) := by decide +kernel
theorem dX7_isOver_31 : decode cX7_isOver 31 = .ok (.getfield 20, 3) := by decide +kernel
theorem dX7_isOver_34 : decode cX7_isOver 34 = .ok (.iload_n 1, 1) := by decide +kernel
theorem dX7_isOver_35 : decode cX7_isOver 35 = .ok (.iload_n 2, 1) := by decide +kernel
theorem dX7_isOver_36 : decode cX7_isOver 36 = .ok (.bipush 10, 2) := by decide +kernel
theorem dX7_isOver_38 : decode cX7_isOver 38 = .ok (.invokevirtual 164, 3) := by decide +kernel
theorem dX7_isOver_41 : decode cX7_isOver 41 = .ok (.bipush (-9), 2) := by decide +kernel
theorem dX7_isOver_43 : decode cX7_isOver 43 = .ok (.if_icmp .eq 7, 3) := by decide +kernel
theorem dX7_isOver_46 : decode cX7_isOver 46 = .ok (.iconst 1, 1) := by decide +kernel
theorem dX7_isOver_47 : decode cX7_isOver 47 = .ok (.goto 4, 3) := by decide +kernel
theorem dX7_isOver_50 : decode cX7_isOver 50 = .ok (.iconst 0, 1) := by decide +kernel
theorem dX7_isOver_51 : decode cX7_isOver 51 = .ok (.ireturn, 1) := by decide +kernel
theorem dX7_told_0 : decode cX7_told 0 = .ok (.iload_n 0, 1) := by decide +kernel
theorem dX7_told_1 : decode cX7_told 1 = .ok (.iload_n 1, 1) := by decide +kernel
theorem dX7_told_2 : decode cX7_told 2 = .ok (.invokestatic 228, 3) := by decide +kernel
theorem dX7_told_5 : decode cX7_told 5 = .ok (.istore_n 3, 1) := by decide +kernel
theorem dX7_told_6 : decode cX7_told 6 = .ok (.iload_n 2, 1) := by decide +kernel
theorem dX7_told_7 : decode cX7_told 7 = .ok (.ifCond .eq 7, 3) := by decide +kernel
theorem dX7_told_10 : decode cX7_told 10 = .ok (.iload_n 0, 1) := by decide +kernel
theorem dX7_told_11 : decode cX7_told 11 = .ok (.goto 4, 3) := by decide +kernel
theorem dX7_told_14 : decode cX7_told 14 = .ok (.iload_n 1, 1) := by decide +kernel
theorem dX7_told_15 : decode cX7_told 15 = .ok (.iload_n 3, 1) := by decide +kernel
theorem dX7_told_16 : decode cX7_told 16 = .ok (.idiv, 1) := by decide +kernel
theorem dX7_told_17 : decode cX7_told 17 = .ok (.ireturn, 1) := by decide +kernel
theorem dX7_commonDivisor_0 : decode cX7_commonDivisor 0 = .ok (.iload_n 0, 1) := by decide +kernel
theorem dX7_commonDivisor_1 : decode cX7_commonDivisor 1 = .ok (.istore_n 2, 1) := by decide +kernel
theorem dX7_commonDivisor_2 : decode cX7_commonDivisor 2 = .ok (.iload_n 1, 1) := by decide +kernel
theorem dX7_commonDivisor_3 : decode cX7_commonDivisor 3 = .ok (.istore_n 3, 1) := by decide +kernel
theorem dX7_commonDivisor_4 : decode cX7_commonDivisor 4 = .ok (.iconst 0, 1) := by decide +kernel
theorem dX7_commonDivisor_5 : decode cX7_commonDivisor 5 = .ok (.istore 4, 2) := by decide +kernel
theorem dX7_commonDivisor_7 : decode cX7_commonDivisor 7 = .ok (.iload 4, 2) := by decide +kernel
theorem dX7_commonDivisor_9 : decode cX7_commonDivisor 9 = .ok (.bipush 64, 2) := by decide +kernel
theorem dX7_commonDivisor_11 : decode cX7_commonDivisor 11 = .ok (.if_icmp .ge 23, 3) := by decide +kernel
theorem dX7_commonDivisor_14 : decode cX7_commonDivisor 14 = .ok (.iload_n 3, 1) := by decide +kernel
theorem dX7_commonDivisor_15 : decode cX7_commonDivisor 15 = .ok (.ifCond .eq 19, 3) := by decide +kernel
theorem dX7_commonDivisor_18 : decode cX7_commonDivisor 18 = .ok (.iload_n 2, 1) := by decide +kernel
theorem dX7_commonDivisor_19 : decode cX7_commonDivisor 19 = .ok (.iload_n 3, 1) := by decide +kernel
theorem dX7_commonDivisor_20 : decode cX7_commonDivisor 20 = .ok (.irem, 1) := by decide +kernel
theorem dX7_commonDivisor_21 : decode cX7_commonDivisor 21 = .ok (.istore 5, 2) := by decide +kernel
theorem dX7_commonDivisor_23 : decode cX7_commonDivisor 23 = .ok (.iload_n 3, 1) := by decide +kernel
theorem dX7_commonDivisor_24 : decode cX7_commonDivisor 24 = .ok (.istore_n 2, 1) := by decide +kernel
theorem dX7_commonDivisor_25 : decode cX7_commonDivisor 25 = .ok (.iload 5, 2) := by decide +kernel
theorem dX7_commonDivisor_27 : decode cX7_commonDivisor 27 = .ok (.istore_n 3, 1) := by decide +kernel
theorem dX7_commonDivisor_28 : decode cX7_commonDivisor 28 = .ok (.iinc 4 1, 3) := by decide +kernel
theorem dX7_commonDivisor_31 : decode cX7_commonDivisor 31 = .ok (.goto (-24), 3) := by decide +kernel
theorem dX7_commonDivisor_34 : decode cX7_commonDivisor 34 = .ok (.iconst 1, 1) := by decide +kernel
theorem dX7_commonDivisor_35 : decode cX7_commonDivisor 35 = .ok (.iload_n 2, 1) := by decide +kernel
theorem dX7_commonDivisor_36 : decode cX7_commonDivisor 36 = .ok (.invokestatic 205, 3) := by decide +kernel
theorem dX7_commonDivisor_39 : decode cX7_commonDivisor 39 = .ok (.ireturn, 1) := by decide +kernel
theorem dX8_init_0 : decode cX8_init 0 = .ok (.aload_n 0, 1) := by decide +kernel
theorem dX8_init_1 : decode cX8_init 1 = .ok (.invokespecial 1, 3) := by decide +kernel
theorem dX8_init_4 : decode cX8_init 4 = .ok (.aload_n 0, 1) := by decide +kernel
theorem dX8_init_5 : decode cX8_init 5 = .ok (.bipush 64, 2) := by decide +kernel
theorem dX8_init_7 : decode cX8_init 7 = .ok (.newarray .int, 2) := by decide +kernel
theorem dX8_init_9 : decode cX8_init 9 = .ok (.putfield 7, 3) := by decide +kernel
theorem dX8_init_12 : decode cX8_init 12 = .ok (.aload_n 0, 1) := by decide +kernel
theorem dX8_init_13 : decode cX8_init 13 = .ok (.bipush 37, 2) := by decide +kernel
theorem dX8_init_15 : decode cX8_init 15 = .ok (.newarray .int, 2) := by decide +kernel
theorem dX8_init_17 : decode cX8_init 17 = .ok (.putfield 13, 3) := by decide +kernel
theorem dX8_init_20 : decode cX8_init 20 = .ok (.aload_n 0, 1) := by decide +kernel
theorem dX8_init_21 : decode cX8_init 21 = .ok (.bipush 37, 2) := by decide +kernel
theorem dX8_init_23 : decode cX8_init 23 = .ok (.newarray .int, 2) := by decide +kernel
theorem dX8_init_25 : decode cX8_init 25 = .ok (.putfield 16, 3) := by decide +kernel
theorem dX8_init_28 : decode cX8_init 28 = .ok (.aload_n 0, 1) := by decide +kernel
theorem dX8_init_29 : decode cX8_init 29 = .ok (.bipush 37, 2) := by decide +kernel
theorem dX8_init_31 : decode cX8_init 31 = .ok (.newarray .int, 2) := by decide +kernel
theorem dX8_init_33 : decode cX8_init 33 = .ok (.putfield 19, 3) := by decide +kernel
theorem dX8_init_36 : decode cX8_init 36 = .ok (.aload_n 0, 1) := by decide +kernel
theorem dX8_init_37 : decode cX8_init 37 = .ok (.sipush 518, 3) := by decide +kernel
theorem dX8_init_40 : decode cX8_init 40 = .ok (.newarray .int, 2) := by decide +kernel
theorem dX8_init_42 : decode cX8_init 42 = .ok (.putfield 22, 3) := by decide +kernel
theorem dX8_init_45 : decode cX8_init 45 = .ok (.aload_n 0, 1) := by decide +kernel
theorem dX8_init_46 : decode cX8_init 46 = .ok (.bipush 74, 2) := by decide +kernel
theorem dX8_init_48 : decode cX8_init 48 = .ok (.newarray .int, 2) := by decide +kernel
theorem dX8_init_50 : decode cX8_init 50 = .ok (.putfield 25, 3) := by decide +kernel
theorem dX8_init_53 : decode cX8_init 53 = .ok (.aload_n 0, 1) := by decide +kernel
theorem dX8_init_54 : decode cX8_init 54 = .ok (.iconst 2, 1) := by decide +kernel
theorem dX8_init_55 : decode cX8_init 55 = .ok (.newarray .boolean, 2) := by decide +kernel
theorem dX8_init_57 : decode cX8_init 57 = .ok (.putfield 28, 3) := by decide +kernel
theorem dX8_init_60 : decode cX8_init 60 = .ok (.aload_n 0, 1) := by decide +kernel
theorem dX8_init_61 : decode cX8_init 61 = .ok (.bipush 6, 2) := by decide +kernel
theorem dX8_init_63 : decode cX8_init 63 = .ok (.newarray .int, 2) := by decide +kernel
theorem dX8_init_65 : decode cX8_init 65 = .ok (.putfield 32, 3) := by decide +kernel
theorem dX8_init_68 : decode cX8_init 68 = .ok (.aload_n 0, 1) := by decide +kernel
theorem dX8_init_69 : decode cX8_init 69 = .ok (.bipush 6, 2) := by decide +kernel
theorem dX8_init_71 : decode cX8_init 71 = .ok (.newarray .int, 2) := by decide +kernel
theorem dX8_init_73 : decode cX8_init 73 = .ok (.putfield 35, 3) := by decide +kernel
theorem dX8_init_76 : decode cX8_init 76 = .ok (.aload_n 0, 1) := by decide +kernel
theorem dX8_init_77 : decode cX8_init 77 = .ok (.bipush 6, 2) := by decide +kernel
theorem dX8_init_79 : decode cX8_init 79 = .ok (.newarray .int, 2) := by decide +kernel
theorem dX8_init_81 : decode cX8_init 81 = .ok (.putfield 38, 3) := by decide +kernel
theorem dX8_init_84 : decode cX8_init 84 = .ok (.aload_n 0, 1) := by decide +kernel
theorem dX8_init_85 : decode cX8_init 85 = .ok (.bipush 6, 2) := by decide +kernel
theorem dX8_init_87 : decode cX8_init 87 = .ok (.newarray .int, 2) := by decide +kernel
theorem dX8_init_89 : decode cX8_init 89 = .ok (.putfield 41, 3) := by decide +kernel
theorem dX8_init_92 : decode cX8_init 92 = .ok (.aload_n 0, 1) := by decide +kernel
theorem dX8_init_93 : decode cX8_init 93 = .ok (.bipush 6, 2) := by decide +kernel
theorem dX8_init_95 : decode cX8_init 95 = .ok (.newarray .int, 2) := by decide +kernel
theorem dX8_init_97 : decode cX8_init 97 = .ok (.putfield 44, 3) := by decide +kernel
theorem dX8_init_100 : decode cX8_init 100 = .ok (.aload_n 0, 1) := by decide +kernel
theorem dX8_init_101 : decode cX8_init 101 = .ok (.bipush 6, 2) := by decide +kernel
theorem dX8_init_103 : decode cX8_init 103 = .ok (.newarray .int, 2) := by decide +kernel
theorem dX8_init_105 : decode cX8_init 105 = .ok (.putfield 47, 3) := by decide +kernel
theorem dX8_init_108 : decode cX8_init 108 = .ok (.aload_n 0, 1) := by decide +kernel
theorem dX8_init_109 : decode cX8_init 109 = .ok (.bipush 6, 2) := by decide +kernel
theorem dX8_init_111 : decode cX8_init 111 = .ok (.newarray .int, 2) := by decide +kernel
theorem dX8_init_113 : decode cX8_init 113 = .ok (.putfield 50, 3) := by decide +kernel
theorem dX8_init_116 : decode cX8_init 116 = .ok (.aload_n 0, 1) := by decide +kernel
theorem dX8_init_117 : decode cX8_init 117 = .ok (.bipush 6, 2) := by decide +kernel
theorem dX8_init_119 : decode cX8_init 119 = .ok (.newarray .int, 2) := by decide +kernel
theorem dX8_init_121 : decode cX8_init 121 = .ok (.putfield 53, 3) := by decide +kernel
theorem dX8_init_124 : decode cX8_init 124 = .ok (.aload_n 0, 1) := by decide +kernel
theorem dX8_init_125 : decode cX8_init 125 = .ok (.bipush 64, 2) := by decide +kernel
theorem dX8_init_127 : decode cX8_init 127 = .ok (.newarray .int, 2) := by decide +kernel
theorem dX8_init_129 : decode cX8_init 129 = .ok (.putfield 56, 3) := by decide +kernel
theorem dX8_init_132 : decode cX8_init 132 = .ok (.aload_n 0, 1) := by decide +kernel
theorem dX8_init_133 : decode cX8_init 133 = .ok (.getfield 16, 3) := by decide +kernel
theorem dX8_init_136 : decode cX8_init 136 = .ok (.iconst 0, 1) := by decide +kernel
theorem dX8_init_137 : decode cX8_init 137 = .ok (.iconst 1, 1) := by decide +kernel
theorem dX8_init_138 : decode cX8_init 138 = .ok (.iastore, 1) := by decide +kernel
theorem dX8_init_139 : decode cX8_init 139 = .ok (.return_, 1) := by decide +kernel
theorem dX8_in_0 : decode cX8_in 0 = .ok (.lload_n 0, 1) := by decide +kernel
theorem dX8_in_1 : decode cX8_in 1 = .ok (.lload_n 2, 1) := by decide +kernel
theorem dX8_in_2 : decode cX8_in 2 = .ok (.lcmp, 1) := by decide +kernel
theorem dX8_in_3 : decode cX8_in 3 = .ok (.ifCond .lt 14, 3) := by decide +kernel
theorem dX8_in_6 : decode cX8_in 6 = .ok (.lload_n 0, 1) := by decide +kernel
theorem dX8_in_7 : decode cX8_in 7 = .ok (.lload 4, 2) := by decide +kernel
theorem dX8_in_9 : decode cX8_in 9 = .ok (.lcmp, 1) := by decide +kernel
theorem dX8_in_10 : decode cX8_in 10 = .ok (.ifCond .gt 7, 3) := by decide +kernel
theorem dX8_in_13 : decode cX8_in 13 = .ok (.iconst 1, 1) := by decide +kernel
theorem dX8_in_14 : decode cX8_in 14 = .ok (.goto 4, 3) := by decide +kernel
theorem dX8_in_17 : decode cX8_in 17 = .ok (.iconst 0, 1) := by decide +kernel
theorem dX8_in_18 : decode cX8_in 18 = .ok (.ireturn, 1) := by decide +kernel
theorem dX8_has_0 : decode cX8_has 0 = .ok (.iload_n 0, 1) := by decide +kernel
theorem dX8_has_1 : decode cX8_has 1 = .ok (.iload_n 1, 1) := by decide +kernel
theorem dX8_has_2 : decode cX8_has 2 = .ok (.ishr, 1) := by decide +kernel
theorem dX8_has_3 : decode cX8_has 3 = .ok (.iconst 1, 1) := by decide +kernel
theorem dX8_has_4 : decode cX8_has 4 = .ok (.iand, 1) := by decide +kernel
theorem dX8_has_5 : decode cX8_has 5 = .ok (.iconst 1, 1) := by decide +kernel
theorem dX8_has_6 : decode cX8_has 6 = .ok (.if_icmp .ne 7, 3) := by decide +kernel
theorem dX8_has_9 : decode cX8_has 9 = .ok (.iconst 1, 1) := by decide +kernel
theorem dX8_has_10 : decode cX8_has 10 = .ok (.goto 4, 3) := by decide +kernel
theorem dX8_has_13 : decode cX8_has 13 = .ok (.iconst 0, 1) := by decide +kernel
theorem dX8_has_14 : decode cX8_has 14 = .ok (.ireturn, 1) := by decide +kernel
theorem dX8_many_0 : decode cX8_many 0 = .ok (.iconst 0, 1) := by decide +kernel
theorem dX8_many_1 : decode cX8_many 1 = .ok (.istore_n 2, 1) := by decide +kernel
theorem dX8_many_2 : decode cX8_many 2 = .ok (.lload_n 0, 1) := by decide +kernel
theorem dX8_many_3 : decode cX8_many 3 = .ok (.lstore_n 3, 1) := by decide +kernel
theorem dX8_many_4 : decode cX8_many 4 = .ok (.lload_n 3, 1) := by decide +kernel
theorem dX8_many_5 : decode cX8_many 5 = .ok (.lconst 0, 1) := by decide +kernel
theorem dX8_many_6 : decode cX8_many 6 = .ok (.lcmp, 1) := by decide +kernel
theorem dX8_many_7 : decode cX8_many 7 = .ok (.ifCond .le 17, 3) := by decide +kernel
theorem dX8_many_10 : decode cX8_many 10 = .ok (.iload_n 2, 1) := by decide +kernel
theorem dX8_many_11 : decode cX8_many 11 = .ok (.lload_n 3, 1) := by decide +kernel
theorem dX8_many_12 : decode cX8_many 12 = .ok (.lconst 1, 1) := by decide +kernel
theorem dX8_many_13 : decode cX8_many 13 = .ok (.land, 1) := by decide +kernel
theorem dX8_many_14 : decode cX8_many 14 = .ok (.l2i, 1) := by decide +kernel
theorem dX8_many_15 : decode cX8_many 15 = .ok (.iadd, 1) := by decide +kernel
theorem dX8_many_16 : decode cX8_many 16 = .ok (.istore_n 2, 1) := by decide +kernel
theorem dX8_many_17 : decode cX8_many 17 = .ok (.lload_n 3, 1) := by decide +kernel
theorem dX8_many_18 : decode cX8_many 18 = .ok (.iconst 1, 1) := by decide +kernel
theorem dX8_many_19 : decode cX8_many 19 = .ok (.lshr, 1) := by decide +kernel
theorem dX8_many_20 : decode cX8_many 20 = .ok (.lstore_n 3, 1) := by decide +kernel
theorem dX8_many_21 : decode cX8_many 21 = .ok (.goto (-17), 3) := by decide +kernel
theorem dX8_many_24 : decode cX8_many 24 = .ok (.iload_n 2, 1) := by decide +kernel
theorem dX8_many_25 : decode cX8_many 25 = .ok (.ireturn, 1) := by decide +kernel
theorem dX8_power_0 : decode cX8_power 0 = .ok (.iconst 1, 1) := by decide +kernel
theorem dX8_power_1 : decode cX8_power 1 = .ok (.istore_n 2, 1) := by decide +kernel
theorem dX8_power_2 : decode cX8_power 2 = .ok (.iconst 0, 1) := by decide +kernel
theorem dX8_power_3 : decode cX8_power 3 = .ok (.istore_n 3, 1) := by decide +kernel
theorem dX8_power_4 : decode cX8_power 4 = .ok (.iload_n 3, 1) := by decide +kernel
theorem dX8_power_5 : decode cX8_power 5 = .ok (.iload_n 1, 1) := by decide +kernel
theorem dX8_power_6 : decode cX8_power 6 = .ok (.if_icmp .ge 13, 3) := by decide +kernel
theorem dX8_power_9 : decode cX8_power 9 = .ok (.iload_n 2, 1) := by decide +kernel
theorem dX8_power_10 : decode cX8_power 10 = .ok (.iload_n 0, 1) := by decide +kernel
theorem dX8_power_11 : decode cX8_power 11 = .ok (.imul, 1) := by decide +kernel
theorem dX8_power_12 : decode cX8_power 12 = .ok (.istore_n 2, 1) := by decide +kernel
theorem dX8_power_13 : decode cX8_power 13 = .ok (.iinc 3 1, 3) := by decide +kernel
theorem dX8_power_16 : decode cX8_power 16 = .ok (.goto (-12), 3) := by decide +kernel
theorem dX8_power_19 : decode cX8_power 19 = .ok (.iload_n 2, 1) := by decide +kernel
theorem dX8_power_20 : decode cX8_power 20 = .ok (.ireturn, 1) := by decide +kernel
theorem dX8_noDeparture_0 : decode cX8_noDeparture 0 = .ok (.iload_n 1, 1) := by decide +kernel
theorem dX8_noDeparture_1 : decode cX8_noDeparture 1 = .ok (.i2l, 1) := by decide +kernel
theorem dX8_noDeparture_2 : decode cX8_noDeparture 2 = .ok (.lconst 0, 1) := by decide +kernel
theorem dX8_noDeparture_3 : decode cX8_noDeparture 3 = .ok (.aload_n 0, 1) := by decide +kernel
theorem dX8_noDeparture_4 : decode cX8_noDeparture 4 = .ok (.getfield 16, 3) := by decide +kernel
theorem dX8_noDeparture_7 : decode cX8_noDeparture 7 = .ok (.iconst 0, 1) := by decide +kernel
theorem dX8_noDeparture_8 : decode cX8_noDeparture 8 = .ok (.iaload, 1) := by decide +kernel
theorem dX8_noDeparture_9 : decode cX8_noDeparture 9 = .ok (.iconst 1, 1) := by decide +kernel
theorem dX8_noDeparture_10 : decode cX8_noDeparture 10 = .ok (.isub, 1) := by decide +kernel
theorem dX8_noDeparture_11 : decode cX8_noDeparture 11 = .ok (.i2l, 1) := by decide +kernel
theorem dX8_noDeparture_12 : decode cX8_noDeparture 12 = .ok (.invokestatic 63, 3) := by decide +kernel
theorem dX8_noDeparture_15 : decode cX8_noDeparture 15 = .ok (.ifCond .ne 7, 3) := by decide +kernel
theorem dX8_noDeparture_18 : decode cX8_noDeparture 18 = .ok (.iconst 1, 1) := by decide +kernel
theorem dX8_noDeparture_19 : decode cX8_noDeparture 19 = .ok (.goto 4, 3) := by decide +kernel
theorem dX8_noDeparture_22 : decode cX8_noDeparture 22 = .ok (.iconst 0, 1) := by decide +kernel
theorem dX8_noDeparture_23 : decode cX8_noDeparture 23 = .ok (.ireturn, 1) := by decide +kernel
theorem dX8_minutesOf_0 : decode cX8_minutesOf 0 = .ok (.aload_n 0, 1) := by decide +kernel
theorem dX8_minutesOf_1 : decode cX8_minutesOf 1 = .ok (.iconst 1, 1) := by decide +kernel
theorem dX8_minutesOf_2 : decode cX8_minutesOf 2 = .ok (.bipush 6, 2) := by decide +kernel
theorem dX8_minutesOf_4 : decode cX8_minutesOf 4 = .ok (.iload_n 1, 1) := by decide +kernel
theorem dX8_minutesOf_5 : decode cX8_minutesOf 5 = .ok (.imul, 1) := by decide +kernel
theorem dX8_minutesOf_6 : decode cX8_minutesOf 6 = .ok (.iadd, 1) := by decide +kernel
theorem dX8_minutesOf_7 : decode cX8_minutesOf 7 = .ok (.iload_n 2, 1) := by decide +kernel
theorem dX8_minutesOf_8 : decode cX8_minutesOf 8 = .ok (.iadd, 1) := by decide +kernel
theorem dX8_minutesOf_9 : decode cX8_minutesOf 9 = .ok (.iaload, 1) := by decide +kernel
theorem dX8_minutesOf_10 : decode cX8_minutesOf 10 = .ok (.iconst 1, 1) := by decide +kernel
theorem dX8_minutesOf_11 : decode cX8_minutesOf 11 = .ok (.isub, 1) := by decide +kernel
theorem dX8_minutesOf_12 : decode cX8_minutesOf 12 = .ok (.ireturn, 1) := by decide +kernel
theorem dX8_isThere_0 : decode cX8_isThere 0 = .ok (.aload_n 0, 1) := by decide +kernel
theorem dX8_isThere_1 : decode cX8_isThere 1 = .ok (.iload_n 1, 1) := by decide +kernel
theorem dX8_isThere_2 : decode cX8_isThere 2 = .ok (.iload_n 2, 1) := by decide +kernel
theorem dX8_isThere_3 : decode cX8_isThere 3 = .ok (.invokestatic 67, 3) := by decide +kernel
theorem dX8_isThere_6 : decode cX8_isThere 6 = .ok (.ifCond .lt 7, 3) := by decide +kernel
theorem dX8_isThere_9 : decode cX8_isThere 9 = .ok (.iconst 1, 1) := by decide +kernel
theorem dX8_isThere_10 : decode cX8_isThere 10 = .ok (.goto 4, 3) := by decide +kernel
theorem dX8_isThere_13 : decode cX8_isThere 13 = .ok (.iconst 0, 1) := by decide +kernel
theorem dX8_isThere_14 : decode cX8_isThere 14 = .ok (.ireturn, 1) := by decide +kernel
theorem dX8_write_0 : decode cX8_write 0 = .ok (.aload_n 0, 1) := by decide +kernel
theorem dX8_write_1 : decode cX8_write 1 = .ok (.iconst 0, 1) := by decide +kernel
theorem dX8_write_2 : decode cX8_write 2 = .ok (.putfield 59, 3) := by decide +kernel
theorem dX8_write_5 : decode cX8_write 5 = .ok (.iload_n 1, 1) := by decide +kernel
theorem dX8_write_6 : decode cX8_write 6 = .ok (.i2l, 1) := by decide +kernel
theorem dX8_write_7 : decode cX8_write 7 = .ok (.lconst 0, 1) := by decide +kernel
theorem dX8_write_8 : decode cX8_write 8 = .ok (.ldc2_w 71, 3) := by decide +kernel
theorem dX8_write_11 : decode cX8_write 11 = .ok (.invokestatic 63, 3) := by decide +kernel
theorem dX8_write_14 : decode cX8_write 14 = .ok (.ifCond .ne 6, 3) := by decide +kernel
theorem dX8_write_17 : decode cX8_write 17 = .ok (.bipush (-2), 2) := by decide +kernel
theorem dX8_write_19 : decode cX8_write 19 = .ok (.ireturn, 1) := by decide +kernel
theorem dX8_write_20 : decode cX8_write 20 = .ok (.aload_n 0, 1) := by decide +kernel
theorem dX8_write_21 : decode cX8_write 21 = .ok (.getfield 73, 3) := by decide +kernel
theorem dX8_write_24 : decode cX8_write 24 = .ok (.bipush 64, 2) := by decide +kernel
theorem dX8_write_26 : decode cX8_write 26 = .ok (.if_icmp .ne 6, 3) := by decide +kernel
theorem dX8_write_29 : decode cX8_write 29 = .ok (.bipush (-4), 2) := by decide +kernel
theorem dX8_write_31 : decode cX8_write 31 = .ok (.ireturn, 1) := by decide +kernel
theorem dX8_write_32 : decode cX8_write 32 = .ok (.aload_n 0, 1) := by decide +kernel
theorem dX8_write_33 : decode cX8_write 33 = .ok (.getfield 7, 3) := by decide +kernel
theorem dX8_write_36 : decode cX8_write 36 = .ok (.aload_n 0, 1) := by decide +kernel
theorem dX8_write_37 : decode cX8_write 37 = .ok (.getfield 73, 3) := by decide +kernel
theorem dX8_write_40 : decode cX8_write 40 = .ok (.iload_n 1, 1) := by decide +kernel
theorem dX8_write_41 : decode cX8_write 41 = .ok (.iastore, 1) := by decide +kernel
theorem dX8_write_42 : decode cX8_write 42 = .ok (.aload_n 0, 1) := by decide +kernel
theorem dX8_write_43 : decode cX8_write 43 = .ok (.dup, 1) := by decide +kernel
theorem dX8_write_44 : decode cX8_write 44 = .ok (.getfield 73, 3) := by decide +kernel
theorem dX8_write_47 : decode cX8_write 47 = .ok (.iconst 1, 1) := by decide +kernel
theorem dX8_write_48 : decode cX8_write 48 = .ok (.iadd, 1) := by decide +kernel
theorem dX8_write_49 : decode cX8_write 49 = .ok (.putfield 73, 3) := by decide +kernel
theorem dX8_write_52 : decode cX8_write 52 = .ok (.aload_n 0, 1) := by decide +kernel
theorem dX8_write_53 : decode cX8_write 53 = .ok (.getfield 73, 3) := by decide +kernel
theorem dX8_write_56 : decode cX8_write 56 = .ok (.ireturn, 1) := by decide +kernel
theorem dX8_wipe_0 : decode cX8_wipe 0 = .ok (.aload_n 0, 1) := by decide +kernel
theorem dX8_wipe_1 : decode cX8_wipe 1 = .ok (.iconst 0, 1) := by decide +kernel
theorem dX8_wipe_2 : decode cX8_wipe 2 = .ok (.putfield 59, 3) := by decide +kernel
theorem dX8_wipe_5 : decode cX8_wipe 5 = .ok (.aload_n 0, 1) := by decide +kernel
theorem dX8_wipe_6 : decode cX8_wipe 6 = .ok (.getfield 73, 3) := by decide +kernel
theorem dX8_wipe_9 : decode cX8_wipe 9 = .ok (.istore_n 1, 1) := by decide +kernel
theorem dX8_wipe_10 : decode cX8_wipe 10 = .ok (.aload_n 0, 1) := by decide +kernel
theorem dX8_wipe_11 : decode cX8_wipe 11 = .ok (.iconst 0, 1) := by decide +kernel
theorem dX8_wipe_12 : decode cX8_wipe 12 = .ok (.putfield 73, 3) := by decide +kernel
theorem dX8_wipe_15 : decode cX8_wipe 15 = .ok (.iload_n 1, 1) := by decide +kernel
theorem dX8_wipe_16 : decode cX8_wipe 16 = .ok (.ireturn, 1) := by decide +kernel
theorem dX8_figure_0 : decode cX8_figure 0 = .ok (.aload_n 0, 1) := by decide +kernel
theorem dX8_figure_1 : decode cX8_figure 1 = .ok (.getfield 76, 3) := by decide +kernel
theorem dX8_figure_4 : decode cX8_figure 4 = .ok (.aload_n 0, 1) := by decide +kernel
theorem dX8_figure_5 : decode cX8_figure 5 = .ok (.getfield 73, 3) := by decide +kernel
theorem dX8_figure_8 : decode cX8_figure 8 = .ok (.if_icmp .eq 25, 3) := by decide +kernel
theorem dX8_figure_11 : decode cX8_figure 11 = .ok (.aload_n 0, 1) := by decide +kernel
theorem dX8_figure_12 : decode cX8_figure 12 = .ok (.getfield 7, 3) := by decide +kernel
theorem dX8_figure_15 : decode cX8_figure 15 = .ok (.aload_n 0, 1) := by decide +kernel
theorem dX8_figure_16 : decode cX8_figure 16 = .ok (.getfield 76, 3) := by decide +kernel
theorem dX8_figure_19 : decode cX8_figure 19 = .ok (.iaload, 1) := by decide +kernel
theorem dX8_figure_20 : decode cX8_figure 20 = .ok (.bipush 48, 2) := by decide +kernel
theorem dX8_figure_22 : decode cX8_figure 22 = .ok (.isub, 1) := by decide +kernel
theorem dX8_figure_23 : decode cX8_figure 23 = .ok (.i2l, 1) := by decide +kernel
theorem dX8_figure_24 : decode cX8_figure 24 = .ok (.lconst 0, 1) := by decide +kernel
theorem dX8_figure_25 : decode cX8_figure 25 = .ok (.iload_n 1, 1) := by decide +kernel
theorem dX8_figure_26 : decode cX8_figure 26 = .ok (.i2l, 1) := by decide +kernel
theorem dX8_figure_27 : decode cX8_figure 27 = .ok (.invokestatic 63, 3) := by decide +kernel
theorem dX8_figure_30 : decode cX8_figure 30 = .ok (.ifCond .ne 6, 3) := by decide +kernel
theorem dX8_figure_33 : decode cX8_figure 33 = .ok (.bipush (-9), 2) := by decide +kernel
theorem dX8_figure_35 : decode cX8_figure 35 = .ok (.ireturn, 1) := by decide +kernel
theorem dX8_figure_36 : decode cX8_figure 36 = .ok (.aload_n 0, 1) := by decide +kernel
theorem dX8_figure_37 : decode cX8_figure 37 = .ok (.dup, 1) := by decide +kernel
theorem dX8_figure_38 : decode cX8_figure 38 = .ok (.getfield 76, 3) := by decide +kernel
theorem dX8_figure_41 : decode cX8_figure 41 = .ok (.iconst 1, 1) := by decide +kernel
theorem dX8_figure_42 : decode cX8_figure 42 = .ok (.iadd, 1) := by decide +kernel
theorem dX8_figure_43 : decode cX8_figure 43 = .ok (.putfield 76, 3) := by decide +kernel
theorem dX8_figure_46 : decode cX8_figure 46 = .ok (.aload_n 0, 1) := by decide +kernel
theorem dX8_figure_47 : decode cX8_figure 47 = .ok (.getfield 7, 3) := by decide +kernel
theorem dX8_figure_50 : decode cX8_figure 50 = .ok (.aload_n 0, 1) := by decide +kernel
theorem dX8_figure_51 : decode cX8_figure 51 = .ok (.getfield 76, 3) := by decide +kernel
theorem dX8_figure_54 : decode cX8_figure 54 = .ok (.iconst 1, 1) := by decide +kernel
theorem dX8_figure_55 : decode cX8_figure 55 = .ok (.isub, 1) := by decide +kernel
theorem dX8_figure_56 : decode cX8_figure 56 = .ok (.iaload, 1) := by decide +kernel
theorem dX8_figure_57 : decode cX8_figure 57 = .ok (.bipush 48, 2) := by decide +kernel
theorem dX8_figure_59 : decode cX8_figure 59 = .ok (.isub, 1) := by decide +kernel
theorem dX8_figure_60 : decode cX8_figure 60 = .ok (.ireturn, 1) := by decide +kernel
theorem dX8_waitsFrom_0 : decode cX8_waitsFrom 0 = .ok (.iconst 0, 1) := by decide +kernel
theorem dX8_waitsFrom_1 : decode cX8_waitsFrom 1 = .ok (.istore_n 2, 1) := by decide +kernel
theorem dX8_waitsFrom_2 : decode cX8_waitsFrom 2 = .ok (.iconst 0, 1) := by decide +kernel
theorem dX8_waitsFrom_3 : decode cX8_waitsFrom 3 = .ok (.istore_n 3, 1) := by decide +kernel
theorem dX8_waitsFrom_4 : decode cX8_waitsFrom 4 = .ok (.iload_n 3, 1) := by decide +kernel
theorem dX8_waitsFrom_5 : decode cX8_waitsFrom 5 = .ok (.aload_n 0, 1) := by decide +kernel
theorem dX8_waitsFrom_6 : decode cX8_waitsFrom 6 = .ok (.iconst 0, 1) := by decide +kernel
theorem dX8_waitsFrom_7 : decode cX8_waitsFrom 7 = .ok (.iaload, 1) := by decide +kernel
theorem dX8_waitsFrom_8 : decode cX8_waitsFrom 8 = .ok (.if_icmp .ge 26, 3) := by decide +kernel
theorem dX8_waitsFrom_11 : decode cX8_waitsFrom 11 = .ok (.iload_n 2, 1) := by decide +kernel
theorem dX8_waitsFrom_12 : decode cX8_waitsFrom 12 = .ok (.aload_n 0, 1) := by decide +kernel
theorem dX8_waitsFrom_13 : decode cX8_waitsFrom 13 = .ok (.iload_n 1, 1) := by decide +kernel
theorem dX8_waitsFrom_14 : decode cX8_waitsFrom 14 = .ok (.iload_n 3, 1) := by decide +kernel
theorem dX8_waitsFrom_15 : decode cX8_waitsFrom 15 = .ok (.invokestatic 79, 3) := by decide +kernel
theorem dX8_waitsFrom_18 : decode cX8_waitsFrom 18 = .ok (.ifCond .eq 7, 3) := by decide +kernel
theorem dX8_waitsFrom_21 : decode cX8_waitsFrom 21 = .ok (.iconst 1, 1) := by decide +kernel
theorem dX8_waitsFrom_22 : decode cX8_waitsFrom 22 = .ok (.goto 4, 3) := by decide +kernel
theorem dX8_waitsFrom_25 : decode cX8_waitsFrom 25 = .ok (.iconst 0, 1) := by decide +kernel
theorem dX8_waitsFrom_26 : decode cX8_waitsFrom 26 = .ok (.iadd, 1) := by decide +kernel
theorem dX8_waitsFrom_27 : decode cX8_waitsFrom 27 = .ok (.istore_n 2, 1) := by decide +kernel
theorem dX8_waitsFrom_28 : decode cX8_waitsFrom 28 = .ok (.iinc 3 1, 3) := by decide +kernel
theorem dX8_waitsFrom_31 : decode cX8_waitsFrom 31 = .ok (.goto (-27), 3) := by decide +kernel
theorem dX8_waitsFrom_34 : decode cX8_waitsFrom 34 = .ok (.iload_n 2, 1) := by decide +kernel
theorem dX8_waitsFrom_35 : decode cX8_waitsFrom 35 = .ok (.ireturn, 1) := by decide +kernel
theorem dX8_readWait_0 : decode cX8_readWait 0 = .ok (.aload_n 0, 1) := by decide +kernel
theorem dX8_readWait_1 : decode cX8_readWait 1 = .ok (.getfield 13, 3) := by decide +kernel
theorem dX8_readWait_4 : decode cX8_readWait 4 = .ok (.iconst 0, 1) := by decide +kernel
theorem dX8_readWait_5 : decode cX8_readWait 5 = .ok (.iaload, 1) := by decide +kernel
theorem dX8_readWait_6 : decode cX8_readWait 6 = .ok (.istore_n 1, 1) := by decide +kernel
theorem dX8_readWait_7 : decode cX8_readWait 7 = .ok (.aload_n 0, 1) := by decide +kernel
theorem dX8_readWait_8 : decode cX8_readWait 8 = .ok (.iload_n 1, 1) := by decide +kernel
theorem dX8_readWait_9 : decode cX8_readWait 9 = .ok (.iconst 1, 1) := by decide +kernel
theorem dX8_readWait_10 : decode cX8_readWait 10 = .ok (.isub, 1) := by decide +kernel
theorem dX8_readWait_11 : decode cX8_readWait 11 = .ok (.invokevirtual 83, 3) := by decide +kernel
theorem dX8_readWait_14 : decode cX8_readWait 14 = .ok (.istore_n 2, 1) := by decide +kernel
theorem dX8_readWait_15 : decode cX8_readWait 15 = .ok (.iload_n 2, 1) := by decide +kernel
theorem dX8_readWait_16 : decode cX8_readWait 16 = .ok (.bipush (-9), 2) := by decide +kernel
theorem dX8_readWait_18 : decode cX8_readWait 18 = .ok (.if_icmp .ne 5, 3) := by decide +kernel
theorem dX8_readWait_21 : decode cX8_readWait 21 = .ok (.iconst 0, 1) := by decide +kernel
theorem dX8_readWait_22 : decode cX8_readWait 22 = .ok (.ireturn, 1) := by decide +kernel
theorem dX8_readWait_23 : decode cX8_readWait 23 = .ok (.aload_n 0, 1) := by decide +kernel
theorem dX8_readWait_24 : decode cX8_readWait 24 = .ok (.getfield 87, 3) := by decide +kernel
theorem dX8_readWait_27 : decode cX8_readWait 27 = .ok (.bipush 12, 2) := by decide +kernel
theorem dX8_readWait_29 : decode cX8_readWait 29 = .ok (.if_icmp .eq 15, 3) := by decide +kernel
theorem dX8_readWait_32 : decode cX8_readWait 32 = .ok (.aload_n 0, 1) := by decide +kernel
theorem dX8_readWait_33 : decode cX8_readWait 33 = .ok (.getfield 13, 3) := by decide +kernel
theorem dX8_readWait_36 : decode cX8_readWait 36 = .ok (.iload_n 2, 1) := by decide +kernel
theorem dX8_readWait_37 : decode cX8_readWait 37 = .ok (.invokestatic 90, 3) := by decide +kernel
theorem dX8_readWait_40 : decode cX8_readWait 40 = .ok (.iload_n 1, 1) := by decide +kernel
theorem dX8_readWait_41 : decode cX8_readWait 41 = .ok (.if_icmp .ne 15, 3) := by decide +kernel
theorem dX8_readWait_44 : decode cX8_readWait 44 = .ok (.aload_n 0, 1) := by decide +kernel
theorem dX8_readWait_45 : decode cX8_readWait 45 = .ok (.dup, 1) := by decide +kernel
theorem dX8_readWait_46 : decode cX8_readWait 46 = .ok (.getfield 76, 3) := by decide +kernel
theorem dX8_readWait_49 : decode cX8_readWait 49 = .ok (.iconst 1, 1) := by decide +kernel
theorem dX8_readWait_50 : decode cX8_readWait 50 = .ok (.isub, 1) := by decide +kernel
theorem dX8_readWait_51 : decode cX8_readWait 51 = .ok (.putfield 76, 3) := by decide +kernel
theorem dX8_readWait_54 : decode cX8_readWait 54 = .ok (.iconst 0, 1) := by decide +kernel
theorem dX8_readWait_55 : decode cX8_readWait 55 = .ok (.ireturn, 1) := by decide +kernel
theorem dX8_readWait_56 : decode cX8_readWait 56 = .ok (.aload_n 0, 1) := by decide +kernel
theorem dX8_readWait_57 : decode cX8_readWait 57 = .ok (.iload_n 1, 1) := by decide +kernel
theorem dX8_readWait_58 : decode cX8_readWait 58 = .ok (.iconst 1, 1) := by decide +kernel
theorem dX8_readWait_59 : decode cX8_readWait 59 = .ok (.isub, 1) := by decide +kernel
theorem dX8_readWait_60 : decode cX8_readWait 60 = .ok (.invokevirtual 83, 3) := by decide +kernel
theorem dX8_readWait_63 : decode cX8_readWait 63 = .ok (.istore_n 3, 1) := by decide +kernel
theorem dX8_readWait_64 : decode cX8_readWait 64 = .ok (.iload_n 3, 1) := by decide +kernel
theorem dX8_readWait_65 : decode cX8_readWait 65 = .ok (.bipush (-9), 2) := by decide +kernel
theorem dX8_readWait_67 : decode cX8_readWait 67 = .ok (.if_icmp .ne 5, 3) := by decide +kernel
theorem dX8_readWait_70 : decode cX8_readWait 70 = .ok (.iconst 0, 1) := by decide +kernel
theorem dX8_readWait_71 : decode cX8_readWait 71 = .ok (.ireturn, 1) := by decide +kernel
theorem dX8_readWait_72 : decode cX8_readWait 72 = .ok (.aload_n 0, 1) := by decide +kernel
theorem dX8_readWait_73 : decode cX8_readWait 73 = .ok (.getfield 13, 3) := by decide +kernel
theorem dX8_readWait_76 : decode cX8_readWait 76 = .ok (.iload_n 2, 1) := by decide +kernel
theorem dX8_readWait_77 : decode cX8_readWait 77 = .ok (.iload_n 3, 1) := by decide +kernel
theorem dX8_readWait_78 : decode cX8_readWait 78 = .ok (.invokestatic 79, 3) := by decide +kernel
theorem dX8_readWait_81 : decode cX8_readWait 81 = .ok (.ifCond .eq 15, 3) := by decide +kernel
theorem dX8_readWait_84 : decode cX8_readWait 84 = .ok (.aload_n 0, 1) := by decide +kernel
theorem dX8_readWait_85 : decode cX8_readWait 85 = .ok (.dup, 1) := by decide +kernel
theorem dX8_readWait_86 : decode cX8_readWait 86 = .ok (.getfield 76, 3) := by decide +kernel
theorem dX8_readWait_89 : decode cX8_readWait 89 = .ok (.iconst 1, 1) := by decide +kernel
theorem dX8_readWait_90 : decode cX8_readWait 90 = .ok (.isub, 1) := by decide +kernel
theorem dX8_readWait_91 : decode cX8_readWait 91 = .ok (.putfield 76, 3) := by decide +kernel
theorem dX8_readWait_94 : decode cX8_readWait 94 = .ok (.iconst 0, 1) := by decide +kernel
theorem dX8_readWait_95 : decode cX8_readWait 95 = .ok (.ireturn, 1) := by decide +kernel
theorem dX8_readWait_96 : decode cX8_readWait 96 = .ok (.aload_n 0, 1) := by decide +kernel
theorem dX8_readWait_97 : decode cX8_readWait 97 = .ok (.bipush 9, 2) := by decide +kernel
theorem dX8_readWait_99 : decode cX8_readWait 99 = .ok (.invokevirtual 83, 3) := by decide +kernel
theorem dX8_readWait_102 : decode cX8_readWait 102 = .ok (.istore 4, 2) := by decide +kernel
theorem dX8_readWait_104 : decode cX8_readWait 104 = .ok (.aload_n 0, 1) := by decide +kernel
theorem dX8_readWait_105 : decode cX8_readWait 105 = .ok (.getfield 13, 3) := by decide +kernel
theorem dX8_readWait_108 : decode cX8_readWait 108 = .ok (.iconst 1, 1) := by decide +kernel
theorem dX8_readWait_109 : decode cX8_readWait 109 = .ok (.bipush 6, 2) := by decide +kernel
theorem dX8_readWait_111 : decode cX8_readWait 111 = .ok (.iload_n 2, 1) := by decide +kernel
theorem dX8_readWait_112 : decode cX8_readWait 112 = .ok (.imul, 1) := by decide +kernel
theorem dX8_readWait_113 : decode cX8_readWait 113 = .ok (.iadd, 1) := by decide +kernel
theorem dX8_readWait_114 : decode cX8_readWait 114 = .ok (.iload_n 3, 1) := by decide +kernel
theorem dX8_readWait_115 : decode cX8_readWait 115 = .ok (.iadd, 1) := by decide +kernel
theorem dX8_readWait_116 : decode cX8_readWait 116 = .ok (.iload 4, 2) := by decide +kernel
theorem dX8_readWait_118 : decode cX8_readWait 118 = .ok (.iconst 1, 1) := by decide +kernel
theorem dX8_readWait_119 : decode cX8_readWait 119 = .ok (.iadd, 1) := by decide +kernel
theorem dX8_readWait_120 : decode cX8_readWait 120 = .ok (.ifCond .ge 7, 3) := by decide +kernel
theorem dX8_readWait_123 : decode cX8_readWait 123 = .ok (.iconst 0, 1) := by decide +kernel
theorem dX8_readWait_124 : decode cX8_readWait 124 = .ok (.goto 7, 3) := by decide +kernel
theorem dX8_readWait_127 : decode cX8_readWait 127 = .ok (.iload 4, 2) := by decide +kernel
theorem dX8_readWait_129 : decode cX8_readWait 129 = .ok (.iconst 1, 1) := by decide +kernel
theorem dX8_readWait_130 : decode cX8_readWait 130 = .ok (.iadd, 1) := by decide +kernel
theorem dX8_readWait_131 : decode cX8_readWait 131 = .ok (.iastore, 1) := by decide +kernel
theorem dX8_readWait_132 : decode cX8_readWait 132 = .ok (.aload_n 0, 1) := by decide +kernel
theorem dX8_readWait_133 : decode cX8_readWait 133 = .ok (.dup, 1) := by decide +kernel
theorem dX8_readWait_134 : decode cX8_readWait 134 = .ok (.getfield 87, 3) := by decide +kernel
theorem dX8_readWait_137 : decode cX8_readWait 137 = .ok (.iconst 1, 1) := by decide +kernel
theorem dX8_readWait_138 : decode cX8_readWait 138 = .ok (.iadd, 1) := by decide +kernel
theorem dX8_readWait_139 : decode cX8_readWait 139 = .ok (.putfield 87, 3) := by decide +kernel
theorem dX8_readWait_142 : decode cX8_readWait 142 = .ok (.iload 4, 2) := by decide +kernel
theorem dX8_readWait_144 : decode cX8_readWait 144 = .ok (.bipush (-9), 2) := by decide +kernel
theorem dX8_readWait_146 : decode cX8_readWait 146 = .ok (.if_icmp .eq 7, 3) := by decide +kernel
theorem dX8_readWait_149 : decode cX8_readWait 149 = .ok (.iconst 1, 1) := by decide +kernel
theorem dX8_readWait_150 : decode cX8_readWait 150 = .ok (.goto 4, 3) := by decide +kernel
theorem dX8_readWait_153 : decode cX8_readWait 153 = .ok (.iconst 0, 1) := by decide +kernel
theorem dX8_readWait_154 : decode cX8_readWait 154 = .ok (.ireturn, 1) := by decide +kernel
theorem dX8_readNet_0 : decode cX8_readNet 0 = .ok (.iconst 0, 1) := by decide +kernel
theorem dX8_readNet_1 : decode cX8_readNet 1 = .ok (.istore_n 1, 1) := by decide +kernel
theorem dX8_readNet_2 : decode cX8_readNet 2 = .ok (.iload_n 1, 1) := by decide +kernel
theorem dX8_readNet_3 : decode cX8_readNet 3 = .ok (.bipush 37, 2) := by decide +kernel
theorem dX8_readNet_5 : decode cX8_readNet 5 = .ok (.if_icmp .ge 16, 3) := by decide +kernel
theorem dX8_readNet_8 : decode cX8_readNet 8 = .ok (.aload_n 0, 1) := by decide +kernel
theorem dX8_readNet_9 : decode cX8_readNet 9 = .ok (.getfield 13, 3) := by decide +kernel
theorem dX8_readNet_12 : decode cX8_readNet 12 = .ok (.iload_n 1, 1) := by decide +kernel
theorem dX8_readNet_13 : decode cX8_readNet 13 = .ok (.iconst 0, 1) := by decide +kernel
theorem dX8_readNet_14 : decode cX8_readNet 14 = .ok (.iastore, 1) := by decide +kernel
theorem dX8_readNet_15 : decode cX8_readNet 15 = .ok (.iinc 1 1, 3) := by decide +kernel
theorem dX8_readNet_18 : decode cX8_readNet 18 = .ok (.goto (-16), 3) := by decide +kernel
theorem dX8_readNet_21 : decode cX8_readNet 21 = .ok (.aload_n 0, 1) := by decide +kernel
theorem dX8_readNet_22 : decode cX8_readNet 22 = .ok (.iconst 0, 1) := by decide +kernel
theorem dX8_readNet_23 : decode cX8_readNet 23 = .ok (.putfield 87, 3) := by decide +kernel
theorem dX8_readNet_26 : decode cX8_readNet 26 = .ok (.aload_n 0, 1) := by decide +kernel
theorem dX8_readNet_27 : decode cX8_readNet 27 = .ok (.getfield 73, 3) := by decide +kernel
theorem dX8_readNet_30 : decode cX8_readNet 30 = .ok (.ifCond .eq 14, 3) := by decide +kernel
theorem dX8_readNet_33 : decode cX8_readNet 33 = .ok (.aload_n 0, 1) := by decide +kernel
theorem dX8_readNet_34 : decode cX8_readNet 34 = .ok (.getfield 7, 3) := by decide +kernel
theorem dX8_readNet_37 : decode cX8_readNet 37 = .ok (.iconst 0, 1) := by decide +kernel
theorem dX8_readNet_38 : decode cX8_readNet 38 = .ok (.iaload, 1) := by decide +kernel
theorem dX8_readNet_39 : decode cX8_readNet 39 = .ok (.bipush 78, 2) := by decide +kernel
theorem dX8_readNet_41 : decode cX8_readNet 41 = .ok (.if_icmp .eq 5, 3) := by decide +kernel
theorem dX8_readNet_44 : decode cX8_readNet 44 = .ok (.iconst 0, 1) := by decide +kernel
theorem dX8_readNet_45 : decode cX8_readNet 45 = .ok (.ireturn, 1) := by decide +kernel
theorem dX8_readNet_46 : decode cX8_readNet 46 = .ok (.aload_n 0, 1) := by decide +kernel
theorem dX8_readNet_47 : decode cX8_readNet 47 = .ok (.iconst 1, 1) := by decide +kernel
theorem dX8_readNet_48 : decode cX8_readNet 48 = .ok (.putfield 76, 3) := by decide +kernel
theorem dX8_readNet_51 : decode cX8_readNet 51 = .ok (.aload_n 0, 1) := by decide +kernel
theorem dX8_readNet_52 : decode cX8_readNet 52 = .ok (.bipush 6, 2) := by decide +kernel
theorem dX8_readNet_54 : decode cX8_readNet 54 = .ok (.invokevirtual 83, 3) := by decide +kernel
theorem dX8_readNet_57 : decode cX8_readNet 57 = .ok (.istore_n 1, 1) := by decide +kernel
theorem dX8_readNet_58 : decode cX8_readNet 58 = .ok (.iload_n 1, 1) := by decide +kernel
theorem dX8_readNet_59 : decode cX8_readNet 59 = .ok (.iconst 1, 1) := by decide +kernel
theorem dX8_readNet_60 : decode cX8_readNet 60 = .ok (.if_icmp .ge 5, 3) := by decide +kernel
theorem dX8_readNet_63 : decode cX8_readNet 63 = .ok (.iconst 1, 1) := by decide +kernel
theorem dX8_readNet_64 : decode cX8_readNet 64 = .ok (.ireturn, 1) := by decide +kernel
theorem dX8_readNet_65 : decode cX8_readNet 65 = .ok (.aload_n 0, 1) := by decide +kernel
theorem dX8_readNet_66 : decode cX8_readNet 66 = .ok (.getfield 13, 3) := by decide +kernel
theorem dX8_readNet_69 : decode cX8_readNet 69 = .ok (.iconst 0, 1) := by decide +kernel
theorem dX8_readNet_70 : decode cX8_readNet 70 = .ok (.iload_n 1, 1) := by decide +kernel
theorem dX8_readNet_71 : decode cX8_readNet 71 = .ok (.iastore, 1) := by decide +kernel
theorem dX8_readNet_72 : decode cX8_readNet 72 = .ok (.aload_n 0, 1) := by decide +kernel
theorem dX8_readNet_73 : decode cX8_readNet 73 = .ok (.getfield 76, 3) := by decide +kernel
theorem dX8_readNet_76 : decode cX8_readNet 76 = .ok (.aload_n 0, 1) := by decide +kernel
theorem dX8_readNet_77 : decode cX8_readNet 77 = .ok (.getfield 73, 3) := by decide +kernel
theorem dX8_readNet_80 : decode cX8_readNet 80 = .ok (.if_icmp .ge 15, 3) := by decide +kernel
theorem dX8_readNet_83 : decode cX8_readNet 83 = .ok (.aload_n 0, 1) := by decide +kernel
theorem dX8_readNet_84 : decode cX8_readNet 84 = .ok (.invokevirtual 94, 3) := by decide +kernel
theorem dX8_readNet_87 : decode cX8_readNet 87 = .ok (.ifCond .ne (-15), 3) := by decide +kernel
theorem dX8_readNet_90 : decode cX8_readNet 90 = .ok (.aload_n 0, 1) := by decide +kernel
theorem dX8_readNet_91 : decode cX8_readNet 91 = .ok (.getfield 76, 3) := by decide +kernel
theorem dX8_readNet_94 : decode cX8_readNet 94 = .ok (.ireturn, 1) := by decide +kernel
theorem dX8_readNet_95 : decode cX8_readNet 95 = .ok (.bipush (-9), 2) := by decide +kernel
theorem dX8_readNet_97 : decode cX8_readNet 97 = .ok (.ireturn, 1) := by decide +kernel
theorem dX8_fault_0 : decode cX8_fault 0 = .ok (.aload_n 0, 1) := by decide +kernel
theorem dX8_fault_1 : decode cX8_fault 1 = .ok (.iconst 0, 1) := by decide +kernel
theorem dX8_fault_2 : decode cX8_fault 2 = .ok (.putfield 59, 3) := by decide +kernel
theorem dX8_fault_5 : decode cX8_fault 5 = .ok (.aload_n 0, 1) := by decide +kernel
theorem dX8_fault_6 : decode cX8_fault 6 = .ok (.invokevirtual 98, 3) := by decide +kernel
theorem dX8_fault_9 : decode cX8_fault 9 = .ok (.ireturn, 1) := by decide +kernel
theorem dX8_waits_0 : decode cX8_waits 0 = .ok (.iconst 0, 1) := by decide +kernel
theorem dX8_waits_1 : decode cX8_waits 1 = .ok (.istore_n 1, 1) := by decide +kernel
theorem dX8_waits_2 : decode cX8_waits 2 = .ok (.iconst 1, 1) := by decide +kernel
theorem dX8_waits_3 : decode cX8_waits 3 = .ok (.istore_n 2, 1) := by decide +kernel
theorem dX8_waits_4 : decode cX8_waits 4 = .ok (.iload_n 2, 1) := by decide +kernel
theorem dX8_waits_5 : decode cX8_waits 5 = .ok (.bipush 37, 2) := by decide +kernel
theorem dX8_waits_7 : decode cX8_waits 7 = .ok (.if_icmp .ge 23, 3) := by decide +kernel
theorem dX8_waits_10 : decode cX8_waits 10 = .ok (.iload_n 1, 1) := by decide +kernel
theorem dX8_waits_11 : decode cX8_waits 11 = .ok (.aload_n 0, 1) := by decide +kernel
theorem dX8_waits_12 : decode cX8_waits 12 = .ok (.iload_n 2, 1) := by decide +kernel
theorem dX8_waits_13 : decode cX8_waits 13 = .ok (.iaload, 1) := by decide +kernel
theorem dX8_waits_14 : decode cX8_waits 14 = .ok (.ifCond .le 7, 3) := by decide +kernel
theorem dX8_waits_17 : decode cX8_waits 17 = .ok (.iconst 1, 1) := by decide +kernel
theorem dX8_waits_18 : decode cX8_waits 18 = .ok (.goto 4, 3) := by decide +kernel
theorem dX8_waits_21 : decode cX8_waits 21 = .ok (.iconst 0, 1) := by decide +kernel
theorem dX8_waits_22 : decode cX8_waits 22 = .ok (.iadd, 1) := by decide +kernel
theorem dX8_waits_23 : decode cX8_waits 23 = .ok (.istore_n 1, 1) := by decide +kernel
theorem dX8_waits_24 : decode cX8_waits 24 = .ok (.iinc 2 1, 3) := by decide +kernel
theorem dX8_waits_27 : decode cX8_waits 27 = .ok (.goto (-23), 3) := by decide +kernel
theorem dX8_waits_30 : decode cX8_waits 30 = .ok (.iload_n 1, 1) := by decide +kernel
theorem dX8_waits_31 : decode cX8_waits 31 = .ok (.ireturn, 1) := by decide +kernel
theorem dX8_net_0 : decode cX8_net 0 = .ok (.aload_n 0, 1) := by decide +kernel
theorem dX8_net_1 : decode cX8_net 1 = .ok (.iconst 0, 1) := by decide +kernel
theorem dX8_net_2 : decode cX8_net 2 = .ok (.putfield 59, 3) := by decide +kernel
theorem dX8_net_5 : decode cX8_net 5 = .ok (.aload_n 0, 1) := by decide +kernel
theorem dX8_net_6 : decode cX8_net 6 = .ok (.invokevirtual 98, 3) := by decide +kernel
theorem dX8_net_9 : decode cX8_net 9 = .ok (.bipush (-9), 2) := by decide +kernel
theorem dX8_net_11 : decode cX8_net 11 = .ok (.if_icmp .eq 6, 3) := by decide +kernel
theorem dX8_net_14 : decode cX8_net 14 = .ok (.bipush (-3), 2) := by decide +kernel
theorem dX8_net_16 : decode cX8_net 16 = .ok (.ireturn, 1) := by decide +kernel
theorem dX8_net_17 : decode cX8_net 17 = .ok (.iconst 0, 1) := by decide +kernel
theorem dX8_net_18 : decode cX8_net 18 = .ok (.istore_n 1, 1) := by decide +kernel
theorem dX8_net_19 : decode cX8_net 19 = .ok (.iload_n 1, 1) := by decide +kernel
theorem dX8_net_20 : decode cX8_net 20 = .ok (.bipush 37, 2) := by decide +kernel
theorem dX8_net_22 : decode cX8_net 22 = .ok (.if_icmp .ge 21, 3) := by decide +kernel
theorem dX8_net_25 : decode cX8_net 25 = .ok (.aload_n 0, 1) := by decide +kernel
theorem dX8_net_26 : decode cX8_net 26 = .ok (.getfield 16, 3) := by decide +kernel
theorem dX8_net_29 : decode cX8_net 29 = .ok (.iload_n 1, 1) := by decide +kernel
theorem dX8_net_30 : decode cX8_net 30 = .ok (.aload_n 0, 1) := by decide +kernel
theorem dX8_net_31 : decode cX8_net 31 = .ok (.getfield 13, 3) := by decide +kernel
theorem dX8_net_34 : decode cX8_net 34 = .ok (.iload_n 1, 1) := by decide +kernel
theorem dX8_net_35 : decode cX8_net 35 = .ok (.iaload, 1) := by decide +kernel
theorem dX8_net_36 : decode cX8_net 36 = .ok (.iastore, 1) := by decide +kernel
theorem dX8_net_37 : decode cX8_net 37 = .ok (.iinc 1 1, 3) := by decide +kernel
theorem dX8_net_40 : decode cX8_net 40 = .ok (.goto (-21), 3) := by decide +kernel
theorem dX8_net_43 : decode cX8_net 43 = .ok (.aload_n 0, 1) := by decide +kernel
theorem dX8_net_44 : decode cX8_net 44 = .ok (.iconst 0, 1) := by decide +kernel
theorem dX8_net_45 : decode cX8_net 45 = .ok (.putfield 102, 3) := by decide +kernel
theorem dX8_net_48 : decode cX8_net 48 = .ok (.aload_n 0, 1) := by decide +kernel
theorem dX8_net_49 : decode cX8_net 49 = .ok (.getfield 28, 3) := by decide +kernel
theorem dX8_net_52 : decode cX8_net 52 = .ok (.iconst 0, 1) := by decide +kernel
theorem dX8_net_53 : decode cX8_net 53 = .ok (.iconst 0, 1) := by decide +kernel
theorem dX8_net_54 : decode cX8_net 54 = .ok (.bastore, 1) := by decide +kernel
theorem dX8_net_55 : decode cX8_net 55 = .ok (.aload_n 0, 1) := by decide +kernel
theorem dX8_net_56 : decode cX8_net 56 = .ok (.getfield 28, 3) := by decide +kernel
theorem dX8_net_59 : decode cX8_net 59 = .ok (.iconst 1, 1) := by decide +kernel
theorem dX8_net_60 : decode cX8_net 60 = .ok (.iconst 0, 1) := by decide +kernel
theorem dX8_net_61 : decode cX8_net 61 = .ok (.bastore, 1) := by decide +kernel
theorem dX8_net_62 : decode cX8_net 62 = .ok (.aload_n 0, 1) := by decide +kernel
theorem dX8_net_63 : decode cX8_net 63 = .ok (.getfield 16, 3) := by decide +kernel
theorem dX8_net_66 : decode cX8_net 66 = .ok (.invokestatic 105, 3) := by decide +kernel
theorem dX8_net_69 : decode cX8_net 69 = .ok (.ireturn, 1) := by decide +kernel
theorem dX8_closeRing_0 : decode cX8_closeRing 0 = .ok (.iconst 0, 1) := by decide +kernel
theorem dX8_closeRing_1 : decode cX8_closeRing 1 = .ok (.istore_n 3, 1) := by decide +kernel
theorem dX8_closeRing_2 : decode cX8_closeRing 2 = .ok (.lconst 0, 1) := by decide +kernel
theorem dX8_closeRing_3 : decode cX8_closeRing 3 = .ok (.lstore 4, 2) := by decide +kernel
theorem dX8_closeRing_5 : decode cX8_closeRing 5 = .ok (.iconst 0, 1) := by decide +kernel
theorem dX8_closeRing_6 : decode cX8_closeRing 6 = .ok (.istore 6, 2) := by decide +kernel
theorem dX8_closeRing_8 : decode cX8_closeRing 8 = .ok (.iconst 0, 1) := by decide +kernel
theorem dX8_closeRing_9 : decode cX8_closeRing 9 = .ok (.istore 7, 2) := by decide +kernel
theorem dX8_closeRing_11 : decode cX8_closeRing 11 = .ok (.iload 7, 2) := by decide +kernel
theorem dX8_closeRing_13 : decode cX8_closeRing 13 = .ok (.iload_n 2, 1) := by decide +kernel
theorem dX8_closeRing_14 : decode cX8_closeRing 14 = .ok (.if_icmp .ge 72, 3) := by decide +kernel
theorem dX8_closeRing_17 : decode cX8_closeRing 17 = .ok (.aload_n 0, 1) := by decide +kernel
theorem dX8_closeRing_18 : decode cX8_closeRing 18 = .ok (.getfield 41, 3) := by decide +kernel
theorem dX8_closeRing_21 : decode cX8_closeRing 21 = .ok (.iload 7, 2) := by decide +kernel
theorem dX8_closeRing_23 : decode cX8_closeRing 23 = .ok (.iconst 1, 1) := by decide +kernel
theorem dX8_closeRing_24 : decode cX8_closeRing 24 = .ok (.iadd, 1) := by decide +kernel
theorem dX8_closeRing_25 : decode cX8_closeRing 25 = .ok (.iload_n 2, 1) := by decide +kernel
theorem dX8_closeRing_26 : decode cX8_closeRing 26 = .ok (.irem, 1) := by decide +kernel
theorem dX8_closeRing_27 : decode cX8_closeRing 27 = .ok (.iaload, 1) := by decide +kernel
theorem dX8_closeRing_28 : decode cX8_closeRing 28 = .ok (.istore 8, 2) := by decide +kernel
theorem dX8_closeRing_30 : decode cX8_closeRing 30 = .ok (.iload_n 3, 1) := by decide +kernel
theorem dX8_closeRing_31 : decode cX8_closeRing 31 = .ok (.aload_n 1, 1) := by decide +kernel
theorem dX8_closeRing_32 : decode cX8_closeRing 32 = .ok (.aload_n 0, 1) := by decide +kernel
theorem dX8_closeRing_33 : decode cX8_closeRing 33 = .ok (.getfield 41, 3) := by decide +kernel
theorem dX8_closeRing_36 : decode cX8_closeRing 36 = .ok (.iload 7, 2) := by decide +kernel
theorem dX8_closeRing_38 : decode cX8_closeRing 38 = .ok (.iaload, 1) := by decide +kernel
theorem dX8_closeRing_39 : decode cX8_closeRing 39 = .ok (.iload 8, 2) := by decide +kernel
theorem dX8_closeRing_41 : decode cX8_closeRing 41 = .ok (.invokestatic 67, 3) := by decide +kernel
theorem dX8_closeRing_44 : decode cX8_closeRing 44 = .ok (.iadd, 1) := by decide +kernel
theorem dX8_closeRing_45 : decode cX8_closeRing 45 = .ok (.istore_n 3, 1) := by decide +kernel
theorem dX8_closeRing_46 : decode cX8_closeRing 46 = .ok (.lload 4, 2) := by decide +kernel
theorem dX8_closeRing_48 : decode cX8_closeRing 48 = .ok (.lconst 1, 1) := by decide +kernel
theorem dX8_closeRing_49 : decode cX8_closeRing 49 = .ok (.bipush 6, 2) := by decide +kernel
theorem dX8_closeRing_51 : decode cX8_closeRing 51 = .ok (.aload_n 0, 1) := by decide +kernel
theorem dX8_closeRing_52 : decode cX8_closeRing 52 = .ok (.getfield 41, 3) := by decide +kernel
theorem dX8_closeRing_55 : decode cX8_closeRing 55 = .ok (.iload 7, 2) := by decide +kernel
theorem dX8_closeRing_57 : decode cX8_closeRing 57 = .ok (.iaload, 1) := by decide +kernel
theorem dX8_closeRing_58 : decode cX8_closeRing 58 = .ok (.imul, 1) := by decide +kernel
theorem dX8_closeRing_59 : decode cX8_closeRing 59 = .ok (.iload 8, 2) := by decide +kernel
theorem dX8_closeRing_61 : decode cX8_closeRing 61 = .ok (.iadd, 1) := by decide +kernel
theorem dX8_closeRing_62 : decode cX8_closeRing 62 = .ok (.lshl, 1) := by decide +kernel
theorem dX8_closeRing_63 : decode cX8_closeRing 63 = .ok (.lor, 1) := by decide +kernel
theorem dX8_closeRing_64 : decode cX8_closeRing 64 = .ok (.lstore 4, 2) := by decide +kernel
theorem dX8_closeRing_66 : decode cX8_closeRing 66 = .ok (.iload 6, 2) := by decide +kernel
theorem dX8_closeRing_68 : decode cX8_closeRing 68 = .ok (.iconst 1, 1) := by decide +kernel
theorem dX8_closeRing_69 : decode cX8_closeRing 69 = .ok (.aload_n 0, 1) := by decide +kernel
theorem dX8_closeRing_70 : decode cX8_closeRing 70 = .ok (.getfield 41, 3) := by decide +kernel
theorem dX8_closeRing_73 : decode cX8_closeRing 73 = .ok (.iload 7, 2) := by decide +kernel
theorem dX8_closeRing_75 : decode cX8_closeRing 75 = .ok (.iaload, 1) := by decide +kernel
theorem dX8_closeRing_76 : decode cX8_closeRing 76 = .ok (.ishl, 1) := by decide +kernel
theorem dX8_closeRing_77 : decode cX8_closeRing 77 = .ok (.ior, 1) := by decide +kernel
theorem dX8_closeRing_78 : decode cX8_closeRing 78 = .ok (.istore 6, 2) := by decide +kernel
theorem dX8_closeRing_80 : decode cX8_closeRing 80 = .ok (.iinc 7 1, 3) := by decide +kernel
theorem dX8_closeRing_83 : decode cX8_closeRing 83 = .ok (.goto (-72), 3) := by decide +kernel
theorem dX8_closeRing_86 : decode cX8_closeRing 86 = .ok (.aload_n 0, 1) := by decide +kernel
theorem dX8_closeRing_87 : decode cX8_closeRing 87 = .ok (.dup, 1) := by decide +kernel
theorem dX8_closeRing_88 : decode cX8_closeRing 88 = .ok (.getfield 109, 3) := by decide +kernel
theorem dX8_closeRing_91 : decode cX8_closeRing 91 = .ok (.iconst 1, 1) := by decide +kernel
theorem dX8_closeRing_92 : decode cX8_closeRing 92 = .ok (.iadd, 1) := by decide +kernel
theorem dX8_closeRing_93 : decode cX8_closeRing 93 = .ok (.putfield 109, 3) := by decide +kernel
theorem dX8_closeRing_96 : decode cX8_closeRing 96 = .ok (.aload_n 0, 1) := by decide +kernel
theorem dX8_closeRing_97 : decode cX8_closeRing 97 = .ok (.dup, 1) := by decide +kernel
theorem dX8_closeRing_98 : decode cX8_closeRing 98 = .ok (.getfield 112, 3) := by decide +kernel
theorem dX8_closeRing_101 : decode cX8_closeRing 101 = .ok (.lload 4, 2) := by decide +kernel
theorem dX8_closeRing_103 : decode cX8_closeRing 103 = .ok (.lor, 1) := by decide +kernel
theorem dX8_closeRing_104 : decode cX8_closeRing 104 = .ok (.putfield 112, 3) := by decide +kernel
theorem dX8_closeRing_107 : decode cX8_closeRing 107 = .ok (.aload_n 0, 1) := by decide +kernel
theorem dX8_closeRing_108 : decode cX8_closeRing 108 = .ok (.getfield 116, 3) := by decide +kernel
theorem dX8_closeRing_111 : decode cX8_closeRing 111 = .ok (.ifCond .eq 18, 3) := by decide +kernel
theorem dX8_closeRing_114 : decode cX8_closeRing 114 = .ok (.iload_n 3, 1) := by decide +kernel
theorem dX8_closeRing_115 : decode cX8_closeRing 115 = .ok (.aload_n 0, 1) := by decide +kernel
theorem dX8_closeRing_116 : decode cX8_closeRing 116 = .ok (.getfield 116, 3) := by decide +kernel
theorem dX8_closeRing_119 : decode cX8_closeRing 119 = .ok (.imul, 1) := by decide +kernel
theorem dX8_closeRing_120 : decode cX8_closeRing 120 = .ok (.aload_n 0, 1) := by decide +kernel
theorem dX8_closeRing_121 : decode cX8_closeRing 121 = .ok (.getfield 119, 3) := by decide +kernel
theorem dX8_closeRing_124 : decode cX8_closeRing 124 = .ok (.iload_n 2, 1) := by decide +kernel
theorem dX8_closeRing_125 : decode cX8_closeRing 125 = .ok (.imul, 1) := by decide +kernel
theorem dX8_closeRing_126 : decode cX8_closeRing 126 = .ok (.if_icmp .le 7, 3) := by decide +kernel
theorem dX8_closeRing_129 : decode cX8_closeRing 129 = .ok (.iconst 1, 1) := by decide +kernel
theorem dX8_closeRing_130 : decode cX8_closeRing 130 = .ok (.goto 4, 3) := by decide +kernel
theorem dX8_closeRing_133 : decode cX8_closeRing 133 = .ok (.iconst 0, 1) := by decide +kernel
theorem dX8_closeRing_134 : decode cX8_closeRing 134 = .ok (.istore 7, 2) := by decide +kernel
theorem dX8_closeRing_136 : decode cX8_closeRing 136 = .ok (.iload 7, 2) := by decide +kernel
theorem dX8_closeRing_138 : decode cX8_closeRing 138 = .ok (.ifCond .eq 23, 3) := by decide +kernel
theorem dX8_closeRing_141 : decode cX8_closeRing 141 = .ok (.aload_n 0, 1) := by decide +kernel
theorem dX8_closeRing_142 : decode cX8_closeRing 142 = .ok (.iload_n 3, 1) := by decide +kernel
theorem dX8_closeRing_143 : decode cX8_closeRing 143 = .ok (.putfield 119, 3) := by decide +kernel
theorem dX8_closeRing_146 : decode cX8_closeRing 146 = .ok (.aload_n 0, 1) := by decide +kernel
theorem dX8_closeRing_147 : decode cX8_closeRing 147 = .ok (.iload_n 2, 1) := by decide +kernel
theorem dX8_closeRing_148 : decode cX8_closeRing 148 = .ok (.putfield 116, 3) := by decide +kernel
theorem dX8_closeRing_151 : decode cX8_closeRing 151 = .ok (.aload_n 0, 1) := by decide +kernel
theorem dX8_closeRing_152 : decode cX8_closeRing 152 = .ok (.lconst 0, 1) := by decide +kernel
theorem dX8_closeRing_153 : decode cX8_closeRing 153 = .ok (.putfield 122, 3) := by decide +kernel
theorem dX8_closeRing_156 : decode cX8_closeRing 156 = .ok (.aload_n 0, 1) := by decide +kernel
theorem dX8_closeRing_157 : decode cX8_closeRing 157 = .ok (.iconst 0, 1) := by decide +kernel
theorem dX8_closeRing_158 : decode cX8_closeRing 158 = .ok (.putfield 125, 3) := by decide +kernel
theorem dX8_closeRing_161 : decode cX8_closeRing 161 = .ok (.iload 7, 2) := by decide +kernel
theorem dX8_closeRing_163 : decode cX8_closeRing 163 = .ok (.ifCond .ne 18, 3) := by decide +kernel
theorem dX8_closeRing_166 : decode cX8_closeRing 166 = .ok (.iload_n 3, 1) := by decide +kernel
theorem dX8_closeRing_167 : decode cX8_closeRing 167 = .ok (.aload_n 0, 1) := by decide +kernel
theorem dX8_closeRing_168 : decode cX8_closeRing 168 = .ok (.getfield 116, 3) := by decide +kernel
theorem dX8_closeRing_171 : decode cX8_closeRing 171 = .ok (.imul, 1) := by decide +kernel
theorem dX8_closeRing_172 : decode cX8_closeRing 172 = .ok (.aload_n 0, 1) := by decide +kernel
theorem dX8_closeRing_173 : decode cX8_closeRing 173 = .ok (.getfield 119, 3) := by decide +kernel
theorem dX8_closeRing_176 : decode cX8_closeRing 176 = .ok (.iload_n 2, 1) := by decide +kernel
theorem dX8_closeRing_177 : decode cX8_closeRing 177 = .ok (.imul, 1) := by decide +kernel
theorem dX8_closeRing_178 : decode cX8_closeRing 178 = .ok (.if_icmp .ne 25, 3) := by decide +kernel
theorem dX8_closeRing_181 : decode cX8_closeRing 181 = .ok (.aload_n 0, 1) := by decide +kernel
theorem dX8_closeRing_182 : decode cX8_closeRing 182 = .ok (.dup, 1) := by decide +kernel
theorem dX8_closeRing_183 : decode cX8_closeRing 183 = .ok (.getfield 122, 3) := by decide +kernel
theorem dX8_closeRing_186 : decode cX8_closeRing 186 = .ok (.lload 4, 2) := by decide +kernel
theorem dX8_closeRing_188 : decode cX8_closeRing 188 = .ok (.lor, 1) := by decide +kernel
theorem dX8_closeRing_189 : decode cX8_closeRing 189 = .ok (.putfield 122, 3) := by decide +kernel
theorem dX8_closeRing_192 : decode cX8_closeRing 192 = .ok (.aload_n 0, 1) := by decide +kernel
theorem dX8_closeRing_193 : decode cX8_closeRing 193 = .ok (.dup, 1) := by decide +kernel
theorem dX8_closeRing_194 : decode cX8_closeRing 194 = .ok (.getfield 125, 3) := by decide +kernel
theorem dX8_closeRing_197 : decode cX8_closeRing 197 = .ok (.iload 6, 2) := by decide +kernel
theorem dX8_closeRing_199 : decode cX8_closeRing 199 = .ok (.ior, 1) := by decide +kernel
theorem dX8_closeRing_200 : decode cX8_closeRing 200 = .ok (.putfield 125, 3) := by decide +kernel
theorem dX8_closeRing_203 : decode cX8_closeRing 203 = .ok (.return_, 1) := by decide +kernel
theorem dX8_isIn_0 : decode cX8_isIn 0 = .ok (.iconst 0, 1) := by decide +kernel
theorem dX8_isIn_1 : decode cX8_isIn 1 = .ok (.istore_n 3, 1) := by decide +kernel
theorem dX8_isIn_2 : decode cX8_isIn 2 = .ok (.iconst 0, 1) := by decide +kernel
theorem dX8_isIn_3 : decode cX8_isIn 3 = .ok (.istore 4, 2) := by decide +kernel
theorem dX8_isIn_5 : decode cX8_isIn 5 = .ok (.iload 4, 2) := by decide +kernel
theorem dX8_isIn_7 : decode cX8_isIn 7 = .ok (.iload_n 1, 1) := by decide +kernel
theorem dX8_isIn_8 : decode cX8_isIn 8 = .ok (.if_icmp .ge 27, 3) := by decide +kernel
theorem dX8_isIn_11 : decode cX8_isIn 11 = .ok (.iload_n 3, 1) := by decide +kernel
theorem dX8_isIn_12 : decode cX8_isIn 12 = .ok (.ifCond .ne 11, 3) := by decide +kernel
theorem dX8_isIn_15 : decode cX8_isIn 15 = .ok (.aload_n 0, 1) := by decide +kernel
theorem dX8_isIn_16 : decode cX8_isIn 16 = .ok (.iload 4, 2) := by decide +kernel
theorem dX8_isIn_18 : decode cX8_isIn 18 = .ok (.iaload, 1) := by decide +kernel
theorem dX8_isIn_19 : decode cX8_isIn 19 = .ok (.iload_n 2, 1) := by decide +kernel
theorem dX8_isIn_20 : decode cX8_isIn 20 = .ok (.if_icmp .ne 7, 3) := by decide +kernel
theorem dX8_isIn_23 : decode cX8_isIn 23 = .ok (.iconst 1, 1) := by decide +kernel
theorem dX8_isIn_24 : decode cX8_isIn 24 = .ok (.goto 4, 3) := by decide +kernel
theorem dX8_isIn_27 : decode cX8_isIn 27 = .ok (.iconst 0, 1) := by decide +kernel
theorem dX8_isIn_28 : decode cX8_isIn 28 = .ok (.istore_n 3, 1) := by decide +kernel
theorem dX8_isIn_29 : decode cX8_isIn 29 = .ok (.iinc 4 1, 3) := by decide +kernel
theorem dX8_isIn_32 : decode cX8_isIn 32 = .ok (.goto (-27), 3) := by decide +kernel
theorem dX8_isIn_35 : decode cX8_isIn 35 = .ok (.iload_n 3, 1) := by decide +kernel
theorem dX8_isIn_36 : decode cX8_isIn 36 = .ok (.ireturn, 1) := by decide +kernel
theorem dX8_ringsFrom_0 : decode cX8_ringsFrom 0 = .ok (.aload_n 0, 1) := by decide +kernel
theorem dX8_ringsFrom_1 : decode cX8_ringsFrom 1 = .ok (.getfield 41, 3) := by decide +kernel
theorem dX8_ringsFrom_4 : decode cX8_ringsFrom 4 = .ok (.iconst 0, 1) := by decide +kernel
theorem dX8_ringsFrom_5 : decode cX8_ringsFrom 5 = .ok (.iload_n 2, 1) := by decide +kernel
theorem dX8_ringsFrom_6 : decode cX8_ringsFrom 6 = .ok (.iastore, 1) := by decide +kernel
theorem dX8_ringsFrom_7 : decode cX8_ringsFrom 7 = .ok (.aload_n 0, 1) := by decide +kernel
theorem dX8_ringsFrom_8 : decode cX8_ringsFrom 8 = .ok (.getfield 44, 3) := by decide +kernel
theorem dX8_ringsFrom_11 : decode cX8_ringsFrom 11 = .ok (.iconst 0, 1) := by decide +kernel
theorem dX8_ringsFrom_12 : decode cX8_ringsFrom 12 = .ok (.iload_n 2, 1) := by decide +kernel
theorem dX8_ringsFrom_13 : decode cX8_ringsFrom 13 = .ok (.iastore, 1) := by decide +kernel
theorem dX8_ringsFrom_14 : decode cX8_ringsFrom 14 = .ok (.iconst 1, 1) := by decide +kernel
theorem dX8_ringsFrom_15 : decode cX8_ringsFrom 15 = .ok (.istore 4, 2) := by decide +kernel
theorem dX8_ringsFrom_17 : decode cX8_ringsFrom 17 = .ok (.iload 4, 2) := by decide +kernel
theorem dX8_ringsFrom_19 : decode cX8_ringsFrom 19 = .ok (.ifCond .le 136, 3) := by decide +kernel
theorem dX8_ringsFrom_22 : decode cX8_ringsFrom 22 = .ok (.aload_n 0, 1) := by decide +kernel
theorem dX8_ringsFrom_23 : decode cX8_ringsFrom 23 = .ok (.getfield 41, 3) := by decide +kernel
theorem dX8_ringsFrom_26 : decode cX8_ringsFrom 26 = .ok (.iload 4, 2) := by decide +kernel
theorem dX8_ringsFrom_28 : decode cX8_ringsFrom 28 = .ok (.iconst 1, 1) := by decide +kernel
theorem dX8_ringsFrom_29 : decode cX8_ringsFrom 29 = .ok (.isub, 1) := by decide +kernel
theorem dX8_ringsFrom_30 : decode cX8_ringsFrom 30 = .ok (.iaload, 1) := by decide +kernel
theorem dX8_ringsFrom_31 : decode cX8_ringsFrom 31 = .ok (.istore 5, 2) := by decide +kernel
theorem dX8_ringsFrom_33 : decode cX8_ringsFrom 33 = .ok (.aload_n 0, 1) := by decide +kernel
theorem dX8_ringsFrom_34 : decode cX8_ringsFrom 34 = .ok (.getfield 44, 3) := by decide +kernel
theorem dX8_ringsFrom_37 : decode cX8_ringsFrom 37 = .ok (.iload 4, 2) := by decide +kernel
theorem dX8_ringsFrom_39 : decode cX8_ringsFrom 39 = .ok (.iconst 1, 1) := by decide +kernel
theorem dX8_ringsFrom_40 : decode cX8_ringsFrom 40 = .ok (.isub, 1) := by decide +kernel
theorem dX8_ringsFrom_41 : decode cX8_ringsFrom 41 = .ok (.iaload, 1) := by decide +kernel
theorem dX8_ringsFrom_42 : decode cX8_ringsFrom 42 = .ok (.istore 6, 2) := by decide +kernel
theorem dX8_ringsFrom_44 : decode cX8_ringsFrom 44 = .ok (.aload_n 0, 1) := by decide +kernel
theorem dX8_ringsFrom_45 : decode cX8_ringsFrom 45 = .ok (.getfield 44, 3) := by decide +kernel
theorem dX8_ringsFrom_48 : decode cX8_ringsFrom 48 = .ok (.iload 4, 2) := by decide +kernel
theorem dX8_ringsFrom_50 : decode cX8_ringsFrom 50 = .ok (.iconst 1, 1) := by decide +kernel
theorem dX8_ringsFrom_51 : decode cX8_ringsFrom 51 = .ok (.isub, 1) := by decide +kernel
theorem dX8_ringsFrom_52 : decode cX8_ringsFrom 52 = .ok (.dup2, 1) := by decide +kernel
theorem dX8_ringsFrom_53 : decode cX8_ringsFrom 53 = .ok (.iaload, 1) := by decide +kernel
theorem dX8_ringsFrom_54 : decode cX8_ringsFrom 54 = .ok (.iconst 1, 1) := by decide +kernel
theorem dX8_ringsFrom_55 : decode cX8_ringsFrom 55 = .ok (.iadd, 1) := by decide +kernel
theorem dX8_ringsFrom_56 : decode cX8_ringsFrom 56 = .ok (.iastore, 1) := by decide +kernel
theorem dX8_ringsFrom_57 : decode cX8_ringsFrom 57 = .ok (.iload 6, 2) := by decide +kernel
theorem dX8_ringsFrom_59 : decode cX8_ringsFrom 59 = .ok (.aload_n 1, 1) := by decide +kernel
theorem dX8_ringsFrom_60 : decode cX8_ringsFrom 60 = .ok (.iconst 0, 1) := by decide +kernel
theorem dX8_ringsFrom_61 : decode cX8_ringsFrom 61 = .ok (.iaload, 1) := by decide +kernel
theorem dX8_ringsFrom_62 : decode cX8_ringsFrom 62 = .ok (.if_icmp .lt 9, 3) := by decide +kernel
theorem dX8_ringsFrom_65 : decode cX8_ringsFrom 65 = .ok (.iinc 4 (-1), 3) := by decide +kernel
theorem dX8_ringsFrom_68 : decode cX8_ringsFrom 68 = .ok (.goto 84, 3) := by decide +kernel
theorem dX8_ringsFrom_71 : decode cX8_ringsFrom 71 = .ok (.iload 6, 2) := by decide +kernel
theorem dX8_ringsFrom_73 : decode cX8_ringsFrom 73 = .ok (.iload_n 2, 1) := by decide +kernel
theorem dX8_ringsFrom_74 : decode cX8_ringsFrom 74 = .ok (.if_icmp .ne 24, 3) := by decide +kernel
theorem dX8_ringsFrom_77 : decode cX8_ringsFrom 77 = .ok (.aload_n 1, 1) := by decide +kernel
theorem dX8_ringsFrom_78 : decode cX8_ringsFrom 78 = .ok (.iload 5, 2) := by decide +kernel
theorem dX8_ringsFrom_80 : decode cX8_ringsFrom 80 = .ok (.iload 6, 2) := by decide +kernel
theorem dX8_ringsFrom_82 : decode cX8_ringsFrom 82 = .ok (.invokestatic 79, 3) := by decide +kernel
theorem dX8_ringsFrom_85 : decode cX8_ringsFrom 85 = .ok (.ifCond .eq 13, 3) := by decide +kernel
theorem dX8_ringsFrom_88 : decode cX8_ringsFrom 88 = .ok (.aload_n 0, 1) := by decide +kernel
theorem dX8_ringsFrom_89 : decode cX8_ringsFrom 89 = .ok (.aload_n 1, 1) := by decide +kernel
theorem dX8_ringsFrom_90 : decode cX8_ringsFrom 90 = .ok (.iload 4, 2) := by decide +kernel
theorem dX8_ringsFrom_92 : decode cX8_ringsFrom 92 = .ok (.invokevirtual 128, 3) := by decide +kernel
theorem dX8_ringsFrom_95 : decode cX8_ringsFrom 95 = .ok (.goto 57, 3) := by decide +kernel
theorem dX8_ringsFrom_98 : decode cX8_ringsFrom 98 = .ok (.aload_n 1, 1) := by decide +kernel
theorem dX8_ringsFrom_99 : decode cX8_ringsFrom 99 = .ok (.iload 5, 2) := by decide +kernel
theorem dX8_ringsFrom_101 : decode cX8_ringsFrom 101 = .ok (.iload 6, 2) := by decide +kernel
theorem dX8_ringsFrom_103 : decode cX8_ringsFrom 103 = .ok (.invokestatic 79, 3) := by decide +kernel
theorem dX8_ringsFrom_106 : decode cX8_ringsFrom 106 = .ok (.ifCond .eq 46, 3) := by decide +kernel
theorem dX8_ringsFrom_109 : decode cX8_ringsFrom 109 = .ok (.iload_n 3, 1) := by decide +kernel
theorem dX8_ringsFrom_110 : decode cX8_ringsFrom 110 = .ok (.iload 6, 2) := by decide +kernel
theorem dX8_ringsFrom_112 : decode cX8_ringsFrom 112 = .ok (.invokestatic 132, 3) := by decide +kernel
theorem dX8_ringsFrom_115 : decode cX8_ringsFrom 115 = .ok (.ifCond .eq 37, 3) := by decide +kernel
theorem dX8_ringsFrom_118 : decode cX8_ringsFrom 118 = .ok (.aload_n 0, 1) := by decide +kernel
theorem dX8_ringsFrom_119 : decode cX8_ringsFrom 119 = .ok (.getfield 41, 3) := by decide +kernel
theorem dX8_ringsFrom_122 : decode cX8_ringsFrom 122 = .ok (.iload 4, 2) := by decide +kernel
theorem dX8_ringsFrom_124 : decode cX8_ringsFrom 124 = .ok (.iload 6, 2) := by decide +kernel
theorem dX8_ringsFrom_126 : decode cX8_ringsFrom 126 = .ok (.invokestatic 136, 3) := by decide +kernel
theorem dX8_ringsFrom_129 : decode cX8_ringsFrom 129 = .ok (.ifCond .ne 23, 3) := by decide +kernel
theorem dX8_ringsFrom_132 : decode cX8_ringsFrom 132 = .ok (.aload_n 0, 1) := by decide +kernel
theorem dX8_ringsFrom_133 : decode cX8_ringsFrom 133 = .ok (.getfield 41, 3) := by decide +kernel
theorem dX8_ringsFrom_136 : decode cX8_ringsFrom 136 = .ok (.iload 4, 2) := by decide +kernel
theorem dX8_ringsFrom_138 : decode cX8_ringsFrom 138 = .ok (.iload 6, 2) := by decide +kernel
theorem dX8_ringsFrom_140 : decode cX8_ringsFrom 140 = .ok (.iastore, 1) := by decide +kernel
theorem dX8_ringsFrom_141 : decode cX8_ringsFrom 141 = .ok (.aload_n 0, 1) := by decide +kernel
theorem dX8_ringsFrom_142 : decode cX8_ringsFrom 142 = .ok (.getfield 44, 3) := by decide +kernel
theorem dX8_ringsFrom_145 : decode cX8_ringsFrom 145 = .ok (.iload 4, 2) := by decide +kernel
theorem dX8_ringsFrom_147 : decode cX8_ringsFrom 147 = .ok (.iload_n 2, 1) := by decide +kernel
theorem dX8_ringsFrom_148 : decode cX8_ringsFrom 148 = .ok (.iastore, 1) := by decide +kernel
theorem dX8_ringsFrom_149 : decode cX8_ringsFrom 149 = .ok (.iinc 4 1, 3) := by decide +kernel
theorem dX8_ringsFrom_152 : decode cX8_ringsFrom 152 = .ok (.goto (-135), 3) := by decide +kernel
theorem dX8_ringsFrom_155 : decode cX8_ringsFrom 155 = .ok (.return_, 1) := by decide +kernel
theorem dX8_findRings_0 : decode cX8_findRings 0 = .ok (.aload_n 0, 1) := by decide +kernel
theorem dX8_findRings_1 : decode cX8_findRings 1 = .ok (.iconst 0, 1) := by decide +kernel
theorem dX8_findRings_2 : decode cX8_findRings 2 = .ok (.putfield 109, 3) := by decide +kernel
theorem dX8_findRings_5 : decode cX8_findRings 5 = .ok (.aload_n 0, 1) := by decide +kernel
theorem dX8_findRings_6 : decode cX8_findRings 6 = .ok (.iconst 0, 1) := by decide +kernel
theorem dX8_findRings_7 : decode cX8_findRings 7 = .ok (.putfield 119, 3) := by decide +kernel
theorem dX8_findRings_10 : decode cX8_findRings 10 = .ok (.aload_n 0, 1) := by decide +kernel
theorem dX8_findRings_11 : decode cX8_findRings 11 = .ok (.iconst 0, 1) := by decide +kernel
theorem dX8_findRings_12 : decode cX8_findRings 12 = .ok (.putfield 116, 3) := by decide +kernel
theorem dX8_findRings_15 : decode cX8_findRings 15 = .ok (.aload_n 0, 1) := by decide +kernel
theorem dX8_findRings_16 : decode cX8_findRings 16 = .ok (.lconst 0, 1) := by decide +kernel
theorem dX8_findRings_17 : decode cX8_findRings 17 = .ok (.putfield 122, 3) := by decide +kernel
theorem dX8_findRings_20 : decode cX8_findRings 20 = .ok (.aload_n 0, 1) := by decide +kernel
theorem dX8_findRings_21 : decode cX8_findRings 21 = .ok (.iconst 0, 1) := by decide +kernel
theorem dX8_findRings_22 : decode cX8_findRings 22 = .ok (.putfield 125, 3) := by decide +kernel
theorem dX8_findRings_25 : decode cX8_findRings 25 = .ok (.aload_n 0, 1) := by decide +kernel
theorem dX8_findRings_26 : decode cX8_findRings 26 = .ok (.lconst 0, 1) := by decide +kernel
theorem dX8_findRings_27 : decode cX8_findRings 27 = .ok (.putfield 112, 3) := by decide +kernel
theorem dX8_findRings_30 : decode cX8_findRings 30 = .ok (.iconst 0, 1) := by decide +kernel
theorem dX8_findRings_31 : decode cX8_findRings 31 = .ok (.istore_n 3, 1) := by decide +kernel
theorem dX8_findRings_32 : decode cX8_findRings 32 = .ok (.iload_n 3, 1) := by decide +kernel
theorem dX8_findRings_33 : decode cX8_findRings 33 = .ok (.aload_n 1, 1) := by decide +kernel
theorem dX8_findRings_34 : decode cX8_findRings 34 = .ok (.iconst 0, 1) := by decide +kernel
theorem dX8_findRings_35 : decode cX8_findRings 35 = .ok (.iaload, 1) := by decide +kernel
theorem dX8_findRings_36 : decode cX8_findRings 36 = .ok (.if_icmp .ge 24, 3) := by decide +kernel
theorem dX8_findRings_39 : decode cX8_findRings 39 = .ok (.iload_n 2, 1) := by decide +kernel
theorem dX8_findRings_40 : decode cX8_findRings 40 = .ok (.iload_n 3, 1) := by decide +kernel
theorem dX8_findRings_41 : decode cX8_findRings 41 = .ok (.invokestatic 132, 3) := by decide +kernel
theorem dX8_findRings_44 : decode cX8_findRings 44 = .ok (.ifCond .eq 10, 3) := by decide +kernel
theorem dX8_findRings_47 : decode cX8_findRings 47 = .ok (.aload_n 0, 1) := by decide +kernel
theorem dX8_findRings_48 : decode cX8_findRings 48 = .ok (.aload_n 1, 1) := by decide +kernel
theorem dX8_findRings_49 : decode cX8_findRings 49 = .ok (.iload_n 3, 1) := by decide +kernel
theorem dX8_findRings_50 : decode cX8_findRings 50 = .ok (.iload_n 2, 1) := by decide +kernel
theorem dX8_findRings_51 : decode cX8_findRings 51 = .ok (.invokevirtual 139, 3) := by decide +kernel
theorem dX8_findRings_54 : decode cX8_findRings 54 = .ok (.iinc 3 1, 3) := by decide +kernel
theorem dX8_findRings_57 : decode cX8_findRings 57 = .ok (.goto (-25), 3) := by decide +kernel
theorem dX8_findRings_60 : decode cX8_findRings 60 = .ok (.return_, 1) := by decide +kernel
theorem dX8_find_0 : decode cX8_find 0 = .ok (.aload_n 0, 1) := by decide +kernel
theorem dX8_find_1 : decode cX8_find 1 = .ok (.aload_n 1, 1) := by decide +kernel
theorem dX8_find_2 : decode cX8_find 2 = .ok (.bipush 63, 2) := by decide +kernel
theorem dX8_find_4 : decode cX8_find 4 = .ok (.invokevirtual 143, 3) := by decide +kernel
theorem dX8_find_7 : decode cX8_find 7 = .ok (.return_, 1) := by decide +kernel
theorem dX8_isPeriod_0 : decode cX8_isPeriod 0 = .ok (.aload_n 0, 1) := by decide +kernel
theorem dX8_isPeriod_1 : decode cX8_isPeriod 1 = .ok (.aload_n 1, 1) := by decide +kernel
theorem dX8_isPeriod_2 : decode cX8_isPeriod 2 = .ok (.invokevirtual 146, 3) := by decide +kernel
theorem dX8_isPeriod_5 : decode cX8_isPeriod 5 = .ok (.aload_n 0, 1) := by decide +kernel
theorem dX8_isPeriod_6 : decode cX8_isPeriod 6 = .ok (.getfield 116, 3) := by decide +kernel
theorem dX8_isPeriod_9 : decode cX8_isPeriod 9 = .ok (.ifCond .eq 16, 3) := by decide +kernel
theorem dX8_isPeriod_12 : decode cX8_isPeriod 12 = .ok (.iload_n 2, 1) := by decide +kernel
theorem dX8_isPeriod_13 : decode cX8_isPeriod 13 = .ok (.aload_n 0, 1) := by decide +kernel
theorem dX8_isPeriod_14 : decode cX8_isPeriod 14 = .ok (.getfield 116, 3) := by decide +kernel
theorem dX8_isPeriod_17 : decode cX8_isPeriod 17 = .ok (.imul, 1) := by decide +kernel
theorem dX8_isPeriod_18 : decode cX8_isPeriod 18 = .ok (.aload_n 0, 1) := by decide +kernel
theorem dX8_isPeriod_19 : decode cX8_isPeriod 19 = .ok (.getfield 119, 3) := by decide +kernel
theorem dX8_isPeriod_22 : decode cX8_isPeriod 22 = .ok (.if_icmp .lt 7, 3) := by decide +kernel
theorem dX8_isPeriod_25 : decode cX8_isPeriod 25 = .ok (.iconst 1, 1) := by decide +kernel
theorem dX8_isPeriod_26 : decode cX8_isPeriod 26 = .ok (.goto 4, 3) := by decide +kernel
theorem dX8_isPeriod_29 : decode cX8_isPeriod 29 = .ok (.iconst 0, 1) := by decide +kernel
theorem dX8_isPeriod_30 : decode cX8_isPeriod 30 = .ok (.ireturn, 1) := by decide +kernel
theorem dX8_leastPeriod_0 : decode cX8_leastPeriod 0 = .ok (.iconst 0, 1) := by decide +kernel
theorem dX8_leastPeriod_1 : decode cX8_leastPeriod 1 = .ok (.istore_n 1, 1) := by decide +kernel
theorem dX8_leastPeriod_2 : decode cX8_leastPeriod 2 = .ok (.aload_n 0, 1) := by decide +kernel
theorem dX8_leastPeriod_3 : decode cX8_leastPeriod 3 = .ok (.aload_n 0, 1) := by decide +kernel
theorem dX8_leastPeriod_4 : decode cX8_leastPeriod 4 = .ok (.getfield 16, 3) := by decide +kernel
theorem dX8_leastPeriod_7 : decode cX8_leastPeriod 7 = .ok (.iload_n 1, 1) := by decide +kernel
theorem dX8_leastPeriod_8 : decode cX8_leastPeriod 8 = .ok (.invokevirtual 150, 3) := by decide +kernel
theorem dX8_leastPeriod_11 : decode cX8_leastPeriod 11 = .ok (.ifCond .ne 9, 3) := by decide +kernel
theorem dX8_leastPeriod_14 : decode cX8_leastPeriod 14 = .ok (.iinc 1 1, 3) := by decide +kernel
theorem dX8_leastPeriod_17 : decode cX8_leastPeriod 17 = .ok (.goto (-15), 3) := by decide +kernel
theorem dX8_leastPeriod_20 : decode cX8_leastPeriod 20 = .ok (.iload_n 1, 1) := by decide +kernel
theorem dX8_leastPeriod_21 : decode cX8_leastPeriod 21 = .ok (.ireturn, 1) := by decide +kernel
theorem dX8_about_0 : decode cX8_about 0 = .ok (.aload_n 0, 1) := by decide +kernel
theorem dX8_about_1 : decode cX8_about 1 = .ok (.iconst 0, 1) := by decide +kernel
theorem dX8_about_2 : decode cX8_about 2 = .ok (.putfield 59, 3) := by decide +kernel
theorem dX8_about_5 : decode cX8_about 5 = .ok (.aload_n 0, 1) := by decide +kernel
theorem dX8_about_6 : decode cX8_about 6 = .ok (.aload_n 0, 1) := by decide +kernel
theorem dX8_about_7 : decode cX8_about 7 = .ok (.getfield 16, 3) := by decide +kernel
theorem dX8_about_10 : decode cX8_about 10 = .ok (.invokevirtual 146, 3) := by decide +kernel
theorem dX8_about_13 : decode cX8_about 13 = .ok (.iload_n 1, 1) := by decide +kernel
theorem dX8_about_14 : decode cX8_about 14 = .ok (.tableswitch 123 0 9 #[54, 61, 69, 74, 90, 98, 103, 108, 113, 118], 54) := by decide +kernel
theorem dX8_about_68 : decode cX8_about 68 = .ok (.aload_n 0, 1) := by decide +kernel
theorem dX8_about_69 : decode cX8_about 69 = .ok (.getfield 16, 3) := by decide +kernel
theorem dX8_about_72 : decode cX8_about 72 = .ok (.iconst 0, 1) := by decide +kernel
theorem dX8_about_73 : decode cX8_about 73 = .ok (.iaload, 1) := by decide +kernel
theorem dX8_about_74 : decode cX8_about 74 = .ok (.ireturn, 1) := by decide +kernel
theorem dX8_about_75 : decode cX8_about 75 = .ok (.aload_n 0, 1) := by decide +kernel
theorem dX8_about_76 : decode cX8_about 76 = .ok (.getfield 16, 3) := by decide +kernel
theorem dX8_about_79 : decode cX8_about 79 = .ok (.invokestatic 105, 3) := by decide +kernel
theorem dX8_about_82 : decode cX8_about 82 = .ok (.ireturn, 1) := by decide +kernel
theorem dX8_about_83 : decode cX8_about 83 = .ok (.aload_n 0, 1) := by decide +kernel
theorem dX8_about_84 : decode cX8_about 84 = .ok (.getfield 109, 3) := by decide +kernel
theorem dX8_about_87 : decode cX8_about 87 = .ok (.ireturn, 1) := by decide +kernel
theorem dX8_about_88 : decode cX8_about 88 = .ok (.aload_n 0, 1) := by decide +kernel
theorem dX8_about_89 : decode cX8_about 89 = .ok (.getfield 16, 3) := by decide +kernel
theorem dX8_about_92 : decode cX8_about 92 = .ok (.invokestatic 105, 3) := by decide +kernel
theorem dX8_about_95 : decode cX8_about 95 = .ok (.aload_n 0, 1) := by decide +kernel
theorem dX8_about_96 : decode cX8_about 96 = .ok (.getfield 112, 3) := by decide +kernel
theorem dX8_about_99 : decode cX8_about 99 = .ok (.invokestatic 154, 3) := by decide +kernel
theorem dX8_about_102 : decode cX8_about 102 = .ok (.isub, 1) := by decide +kernel
theorem dX8_about_103 : decode cX8_about 103 = .ok (.ireturn, 1) := by decide +kernel
theorem dX8_about_104 : decode cX8_about 104 = .ok (.aload_n 0, 1) := by decide +kernel
theorem dX8_about_105 : decode cX8_about 105 = .ok (.getfield 122, 3) := by decide +kernel
theorem dX8_about_108 : decode cX8_about 108 = .ok (.invokestatic 154, 3) := by decide +kernel
theorem dX8_about_111 : decode cX8_about 111 = .ok (.ireturn, 1) := by decide +kernel
theorem dX8_about_112 : decode cX8_about 112 = .ok (.aload_n 0, 1) := by decide +kernel
theorem dX8_about_113 : decode cX8_about 113 = .ok (.getfield 125, 3) := by decide +kernel
theorem dX8_about_116 : decode cX8_about 116 = .ok (.ireturn, 1) := by decide +kernel
theorem dX8_about_117 : decode cX8_about 117 = .ok (.aload_n 0, 1) := by decide +kernel
theorem dX8_about_118 : decode cX8_about 118 = .ok (.invokevirtual 158, 3) := by decide +kernel
theorem dX8_about_121 : decode cX8_about 121 = .ok (.ireturn, 1) := by decide +kernel
theorem dX8_about_122 : decode cX8_about 122 = .ok (.aload_n 0, 1) := by decide +kernel
theorem dX8_about_123 : decode cX8_about 123 = .ok (.getfield 102, 3) := by decide +kernel
theorem dX8_about_126 : decode cX8_about 126 = .ok (.ireturn, 1) := by decide +kernel
theorem dX8_about_127 : decode cX8_about 127 = .ok (.aload_n 0, 1) := by decide +kernel
theorem dX8_about_128 : decode cX8_about 128 = .ok (.getfield 161, 3) := by decide +kernel
theorem dX8_about_131 : decode cX8_about 131 = .ok (.ireturn, 1) := by decide +kernel
theorem dX8_about_132 : decode cX8_about 132 = .ok (.aload_n 0, 1) := by decide +kernel
theorem dX8_about_133 : decode cX8_about 133 = .ok (.getfield 73, 3) := by decide +kernel
theorem dX8_about_136 : decode cX8_about 136 = .ok (.ireturn, 1) := by decide +kernel
theorem dX8_about_137 : decode cX8_about 137 = .ok (.bipush (-2), 2) := by decide +kernel
theorem dX8_about_139 : decode cX8_about 139 = .ok (.ireturn, 1) := by decide +kernel
theorem dX8_minutes_0 : decode cX8_minutes 0 = .ok (.aload_n 0, 1) := by decide +kernel
theorem dX8_minutes_1 : decode cX8_minutes 1 = .ok (.iconst 0, 1) := by decide +kernel
theorem dX8_minutes_2 : decode cX8_minutes 2 = .ok (.putfield 59, 3) := by decide +kernel
theorem dX8_minutes_5 : decode cX8_minutes 5 = .ok (.aload_n 0, 1) := by decide +kernel
theorem dX8_minutes_6 : decode cX8_minutes 6 = .ok (.iload_n 1, 1) := by decide +kernel
theorem dX8_minutes_7 : decode cX8_minutes 7 = .ok (.invokevirtual 164, 3) := by decide +kernel
theorem dX8_minutes_10 : decode cX8_minutes 10 = .ok (.ifCond .ne 11, 3) := by decide +kernel
theorem dX8_minutes_13 : decode cX8_minutes 13 = .ok (.aload_n 0, 1) := by decide +kernel
theorem dX8_minutes_14 : decode cX8_minutes 14 = .ok (.iload_n 2, 1) := by decide +kernel
theorem dX8_minutes_15 : decode cX8_minutes 15 = .ok (.invokevirtual 164, 3) := by decide +kernel
theorem dX8_minutes_18 : decode cX8_minutes 18 = .ok (.ifCond .eq 5, 3) := by decide +kernel
theorem dX8_minutes_21 : decode cX8_minutes 21 = .ok (.iconst (-1), 1) := by decide +kernel
theorem dX8_minutes_22 : decode cX8_minutes 22 = .ok (.ireturn, 1) := by decide +kernel
theorem dX8_minutes_23 : decode cX8_minutes 23 = .ok (.aload_n 0, 1) := by decide +kernel
theorem dX8_minutes_24 : decode cX8_minutes 24 = .ok (.getfield 16, 3) := by decide +kernel
theorem dX8_minutes_27 : decode cX8_minutes 27 = .ok (.iload_n 1, 1) := by decide +kernel
theorem dX8_minutes_28 : decode cX8_minutes 28 = .ok (.iload_n 2, 1) := by decide +kernel
theorem dX8_minutes_29 : decode cX8_minutes 29 = .ok (.invokestatic 79, 3) := by decide +kernel
theorem dX8_minutes_32 : decode cX8_minutes 32 = .ok (.ifCond .eq 15, 3) := by decide +kernel
theorem dX8_minutes_35 : decode cX8_minutes 35 = .ok (.aload_n 0, 1) := by decide +kernel
theorem dX8_minutes_36 : decode cX8_minutes 36 = .ok (.getfield 16, 3) := by decide +kernel
theorem dX8_minutes_39 : decode cX8_minutes 39 = .ok (.iload_n 1, 1) := by decide +kernel
theorem dX8_minutes_40 : decode cX8_minutes 40 = .ok (.iload_n 2, 1) := by decide +kernel
theorem dX8_minutes_41 : decode cX8_minutes 41 = .ok (.invokestatic 67, 3) := by decide +kernel
theorem dX8_minutes_44 : decode cX8_minutes 44 = .ok (.goto 5, 3) := by decide +kernel
theorem dX8_minutes_47 : decode cX8_minutes 47 = .ok (.bipush (-9), 2) := by decide +kernel
theorem dX8_minutes_49 : decode cX8_minutes 49 = .ok (.ireturn, 1) := by decide +kernel
theorem dX8_note_0 : decode cX8_note 0 = .ok (.aload_n 0, 1) := by decide +kernel
theorem dX8_note_1 : decode cX8_note 1 = .ok (.getfield 102, 3) := by decide +kernel
theorem dX8_note_4 : decode cX8_note 4 = .ok (.bipush 14, 2) := by decide +kernel
theorem dX8_note_6 : decode cX8_note 6 = .ok (.if_icmp .ne 43, 3) := by decide +kernel
theorem dX8_note_9 : decode cX8_note 9 = .ok (.iconst 0, 1) := by decide +kernel
theorem dX8_note_10 : decode cX8_note 10 = .ok (.istore_n 1, 1) := by decide +kernel
theorem dX8_note_11 : decode cX8_note 11 = .ok (.iload_n 1, 1) := by decide +kernel
theorem dX8_note_12 : decode cX8_note 12 = .ok (.sipush 481, 3) := by decide +kernel
theorem dX8_note_15 : decode cX8_note 15 = .ok (.if_icmp .ge 24, 3) := by decide +kernel
theorem dX8_note_18 : decode cX8_note 18 = .ok (.aload_n 0, 1) := by decide +kernel
theorem dX8_note_19 : decode cX8_note 19 = .ok (.getfield 22, 3) := by decide +kernel
theorem dX8_note_22 : decode cX8_note 22 = .ok (.iload_n 1, 1) := by decide +kernel
theorem dX8_note_23 : decode cX8_note 23 = .ok (.aload_n 0, 1) := by decide +kernel
theorem dX8_note_24 : decode cX8_note 24 = .ok (.getfield 22, 3) := by decide +kernel
theorem dX8_note_27 : decode cX8_note 27 = .ok (.iload_n 1, 1) := by decide +kernel
theorem dX8_note_28 : decode cX8_note 28 = .ok (.bipush 37, 2) := by decide +kernel
theorem dX8_note_30 : decode cX8_note 30 = .ok (.iadd, 1) := by decide +kernel
theorem dX8_note_31 : decode cX8_note 31 = .ok (.iaload, 1) := by decide +kernel
theorem dX8_note_32 : decode cX8_note 32 = .ok (.iastore, 1) := by decide +kernel
theorem dX8_note_33 : decode cX8_note 33 = .ok (.iinc 1 1, 3) := by decide +kernel
theorem dX8_note_36 : decode cX8_note 36 = .ok (.goto (-25), 3) := by decide +kernel
theorem dX8_note_39 : decode cX8_note 39 = .ok (.aload_n 0, 1) := by decide +kernel
theorem dX8_note_40 : decode cX8_note 40 = .ok (.dup, 1) := by decide +kernel
theorem dX8_note_41 : decode cX8_note 41 = .ok (.getfield 102, 3) := by decide +kernel
theorem dX8_note_44 : decode cX8_note 44 = .ok (.iconst 1, 1) := by decide +kernel
theorem dX8_note_45 : decode cX8_note 45 = .ok (.isub, 1) := by decide +kernel
theorem dX8_note_46 : decode cX8_note 46 = .ok (.putfield 102, 3) := by decide +kernel
theorem dX8_note_49 : decode cX8_note 49 = .ok (.iconst 0, 1) := by decide +kernel
theorem dX8_note_50 : decode cX8_note 50 = .ok (.istore_n 1, 1) := by decide +kernel
theorem dX8_note_51 : decode cX8_note 51 = .ok (.iload_n 1, 1) := by decide +kernel
theorem dX8_note_52 : decode cX8_note 52 = .ok (.bipush 37, 2) := by decide +kernel
theorem dX8_note_54 : decode cX8_note 54 = .ok (.if_icmp .ge 29, 3) := by decide +kernel
theorem dX8_note_57 : decode cX8_note 57 = .ok (.aload_n 0, 1) := by decide +kernel
theorem dX8_note_58 : decode cX8_note 58 = .ok (.getfield 22, 3) := by decide +kernel
theorem dX8_note_61 : decode cX8_note 61 = .ok (.bipush 37, 2) := by decide +kernel
theorem dX8_note_63 : decode cX8_note 63 = .ok (.aload_n 0, 1) := by decide +kernel
theorem dX8_note_64 : decode cX8_note 64 = .ok (.getfield 102, 3) := by decide +kernel
theorem dX8_note_67 : decode cX8_note 67 = .ok (.imul, 1) := by decide +kernel
theorem dX8_note_68 : decode cX8_note 68 = .ok (.iload_n 1, 1) := by decide +kernel
theorem dX8_note_69 : decode cX8_note 69 = .ok (.iadd, 1) := by decide +kernel
theorem dX8_note_70 : decode cX8_note 70 = .ok (.aload_n 0, 1) := by decide +kernel
theorem dX8_note_71 : decode cX8_note 71 = .ok (.getfield 16, 3) := by decide +kernel
theorem dX8_note_74 : decode cX8_note 74 = .ok (.iload_n 1, 1) := by decide +kernel
theorem dX8_note_75 : decode cX8_note 75 = .ok (.iaload, 1) := by decide +kernel
theorem dX8_note_76 : decode cX8_note 76 = .ok (.iastore, 1) := by decide +kernel
theorem dX8_note_77 : decode cX8_note 77 = .ok (.iinc 1 1, 3) := by decide +kernel
theorem dX8_note_80 : decode cX8_note 80 = .ok (.goto (-29), 3) := by decide +kernel
theorem dX8_note_83 : decode cX8_note 83 = .ok (.aload_n 0, 1) := by decide +kernel
theorem dX8_note_84 : decode cX8_note 84 = .ok (.dup, 1) := by decide +kernel
theorem dX8_note_85 : decode cX8_note 85 = .ok (.getfield 102, 3) := by decide +kernel
theorem dX8_note_88 : decode cX8_note 88 = .ok (.iconst 1, 1) := by decide +kernel
theorem dX8_note_89 : decode cX8_note 89 = .ok (.iadd, 1) := by decide +kernel
theorem dX8_note_90 : decode cX8_note 90 = .ok (.putfield 102, 3) := by decide +kernel
theorem dX8_note_93 : decode cX8_note 93 = .ok (.return_, 1) := by decide +kernel
theorem dX8_put_0 : decode cX8_put 0 = .ok (.aload_n 0, 1) := by decide +kernel
theorem dX8_put_1 : decode cX8_put 1 = .ok (.iconst 0, 1) := by decide +kernel
theorem dX8_put_2 : decode cX8_put 2 = .ok (.putfield 59, 3) := by decide +kernel
theorem dX8_put_5 : decode cX8_put 5 = .ok (.aload_n 0, 1) := by decide +kernel
theorem dX8_put_6 : decode cX8_put 6 = .ok (.iload_n 1, 1) := by decide +kernel
theorem dX8_put_7 : decode cX8_put 7 = .ok (.invokevirtual 164, 3) := by decide +kernel
theorem dX8_put_10 : decode cX8_put 10 = .ok (.ifCond .ne 11, 3) := by decide +kernel
theorem dX8_put_13 : decode cX8_put 13 = .ok (.aload_n 0, 1) := by decide +kernel
theorem dX8_put_14 : decode cX8_put 14 = .ok (.iload_n 2, 1) := by decide +kernel
theorem dX8_put_15 : decode cX8_put 15 = .ok (.invokevirtual 164, 3) := by decide +kernel
theorem dX8_put_18 : decode cX8_put 18 = .ok (.ifCond .eq 5, 3) := by decide +kernel
theorem dX8_put_21 : decode cX8_put 21 = .ok (.iconst (-1), 1) := by decide +kernel
theorem dX8_put_22 : decode cX8_put 22 = .ok (.ireturn, 1) := by decide +kernel
theorem dX8_put_23 : decode cX8_put 23 = .ok (.iload_n 3, 1) := by decide +kernel
theorem dX8_put_24 : decode cX8_put 24 = .ok (.i2l, 1) := by decide +kernel
theorem dX8_put_25 : decode cX8_put 25 = .ok (.lconst 0, 1) := by decide +kernel
theorem dX8_put_26 : decode cX8_put 26 = .ok (.ldc2_w 168, 3) := by decide +kernel
theorem dX8_put_29 : decode cX8_put 29 = .ok (.invokestatic 63, 3) := by decide +kernel
theorem dX8_put_32 : decode cX8_put 32 = .ok (.ifCond .ne 6, 3) := by decide +kernel
theorem dX8_put_35 : decode cX8_put 35 = .ok (.bipush (-2), 2) := by decide +kernel
theorem dX8_put_37 : decode cX8_put 37 = .ok (.ireturn, 1) := by decide +kernel
theorem dX8_put_38 : decode cX8_put 38 = .ok (.aload_n 0, 1) := by decide +kernel
theorem dX8_put_39 : decode cX8_put 39 = .ok (.getfield 16, 3) := by decide +kernel
theorem dX8_put_42 : decode cX8_put 42 = .ok (.iload_n 1, 1) := by decide +kernel
theorem dX8_put_43 : decode cX8_put 43 = .ok (.iload_n 2, 1) := by decide +kernel
theorem dX8_put_44 : decode cX8_put 44 = .ok (.invokestatic 79, 3) := by decide +kernel
theorem dX8_put_47 : decode cX8_put 47 = .ok (.ifCond .eq 6, 3) := by decide +kernel
theorem dX8_put_50 : decode cX8_put 50 = .ok (.bipush (-3), 2) := by decide +kernel
theorem dX8_put_52 : decode cX8_put 52 = .ok (.ireturn, 1) := by decide +kernel
theorem dX8_put_53 : decode cX8_put 53 = .ok (.aload_n 0, 1) := by decide +kernel
theorem dX8_put_54 : decode cX8_put 54 = .ok (.invokevirtual 170, 3) := by decide +kernel
theorem dX8_put_57 : decode cX8_put 57 = .ok (.aload_n 0, 1) := by decide +kernel
theorem dX8_put_58 : decode cX8_put 58 = .ok (.getfield 16, 3) := by decide +kernel
theorem dX8_put_61 : decode cX8_put 61 = .ok (.iconst 1, 1) := by decide +kernel
theorem dX8_put_62 : decode cX8_put 62 = .ok (.bipush 6, 2) := by decide +kernel
theorem dX8_put_64 : decode cX8_put 64 = .ok (.iload_n 1, 1) := by decide +kernel
theorem dX8_put_65 : decode cX8_put 65 = .ok (.imul, 1) := by decide +kernel
theorem dX8_put_66 : decode cX8_put 66 = .ok (.iadd, 1) := by decide +kernel
theorem dX8_put_67 : decode cX8_put 67 = .ok (.iload_n 2, 1) := by decide +kernel
theorem dX8_put_68 : decode cX8_put 68 = .ok (.iadd, 1) := by decide +kernel
theorem dX8_put_69 : decode cX8_put 69 = .ok (.iload_n 3, 1) := by decide +kernel
theorem dX8_put_70 : decode cX8_put 70 = .ok (.iconst 1, 1) := by decide +kernel
theorem dX8_put_71 : decode cX8_put 71 = .ok (.iadd, 1) := by decide +kernel
theorem dX8_put_72 : decode cX8_put 72 = .ok (.iastore, 1) := by decide +kernel
theorem dX8_put_73 : decode cX8_put 73 = .ok (.aload_n 0, 1) := by decide +kernel
theorem dX8_put_74 : decode cX8_put 74 = .ok (.getfield 16, 3) := by decide +kernel
theorem dX8_put_77 : decode cX8_put 77 = .ok (.invokestatic 105, 3) := by decide +kernel
theorem dX8_put_80 : decode cX8_put 80 = .ok (.ireturn, 1) := by decide +kernel
theorem dX8_cut_0 : decode cX8_cut 0 = .ok (.aload_n 0, 1) := by decide +kernel
theorem dX8_cut_1 : decode cX8_cut 1 = .ok (.iconst 0, 1) := by decide +kernel
theorem dX8_cut_2 : decode cX8_cut 2 = .ok (.putfield 59, 3) := by decide +kernel
theorem dX8_cut_5 : decode cX8_cut 5 = .ok (.aload_n 0, 1) := by decide +kernel
theorem dX8_cut_6 : decode cX8_cut 6 = .ok (.iload_n 1, 1) := by decide +kernel
theorem dX8_cut_7 : decode cX8_cut 7 = .ok (.invokevirtual 164, 3) := by decide +kernel
theorem dX8_cut_10 : decode cX8_cut 10 = .ok (.ifCond .ne 11, 3) := by decide +kernel
theorem dX8_cut_13 : decode cX8_cut 13 = .ok (.aload_n 0, 1) := by decide +kernel
theorem dX8_cut_14 : decode cX8_cut 14 = .ok (.iload_n 2, 1) := by decide +kernel
theorem dX8_cut_15 : decode cX8_cut 15 = .ok (.invokevirtual 164, 3) := by decide +kernel
theorem dX8_cut_18 : decode cX8_cut 18 = .ok (.ifCond .eq 5, 3) := by decide +kernel
theorem dX8_cut_21 : decode cX8_cut 21 = .ok (.iconst (-1), 1) := by decide +kernel
theorem dX8_cut_22 : decode cX8_cut 22 = .ok (.ireturn, 1) := by decide +kernel
theorem dX8_cut_23 : decode cX8_cut 23 = .ok (.aload_n 0, 1) := by decide +kernel
theorem dX8_cut_24 : decode cX8_cut 24 = .ok (.getfield 16, 3) := by decide +kernel
theorem dX8_cut_27 : decode cX8_cut 27 = .ok (.iload_n 1, 1) := by decide +kernel
theorem dX8_cut_28 : decode cX8_cut 28 = .ok (.iload_n 2, 1) := by decide +kernel
theorem dX8_cut_29 : decode cX8_cut 29 = .ok (.invokestatic 79, 3) := by decide +kernel
theorem dX8_cut_32 : decode cX8_cut 32 = .ok (.ifCond .ne 6, 3) := by decide +kernel
theorem dX8_cut_35 : decode cX8_cut 35 = .ok (.bipush (-3), 2) := by decide +kernel
theorem dX8_cut_37 : decode cX8_cut 37 = .ok (.ireturn, 1) := by decide +kernel
theorem dX8_cut_38 : decode cX8_cut 38 = .ok (.aload_n 0, 1) := by decide +kernel
theorem dX8_cut_39 : decode cX8_cut 39 = .ok (.invokevirtual 170, 3) := by decide +kernel
theorem dX8_cut_42 : decode cX8_cut 42 = .ok (.aload_n 0, 1) := by decide +kernel
theorem dX8_cut_43 : decode cX8_cut 43 = .ok (.getfield 16, 3) := by decide +kernel
theorem dX8_cut_46 : decode cX8_cut 46 = .ok (.iload_n 1, 1) := by decide +kernel
theorem dX8_cut_47 : decode cX8_cut 47 = .ok (.iload_n 2, 1) := by decide +kernel
theorem dX8_cut_48 : decode cX8_cut 48 = .ok (.invokestatic 67, 3) := by decide +kernel
theorem dX8_cut_51 : decode cX8_cut 51 = .ok (.istore_n 3, 1) := by decide +kernel
theorem dX8_cut_52 : decode cX8_cut 52 = .ok (.aload_n 0, 1) := by decide +kernel
theorem dX8_cut_53 : decode cX8_cut 53 = .ok (.getfield 16, 3) := by decide +kernel
theorem dX8_cut_56 : decode cX8_cut 56 = .ok (.iconst 1, 1) := by decide +kernel
theorem dX8_cut_57 : decode cX8_cut 57 = .ok (.bipush 6, 2) := by decide +kernel
theorem dX8_cut_59 : decode cX8_cut 59 = .ok (.iload_n 1, 1) := by decide +kernel
theorem dX8_cut_60 : decode cX8_cut 60 = .ok (.imul, 1) := by decide +kernel
theorem dX8_cut_61 : decode cX8_cut 61 = .ok (.iadd, 1) := by decide +kernel
theorem dX8_cut_62 : decode cX8_cut 62 = .ok (.iload_n 2, 1) := by decide +kernel
theorem dX8_cut_63 : decode cX8_cut 63 = .ok (.iadd, 1) := by decide +kernel
theorem dX8_cut_64 : decode cX8_cut 64 = .ok (.iconst 0, 1) := by decide +kernel
theorem dX8_cut_65 : decode cX8_cut 65 = .ok (.iastore, 1) := by decide +kernel
theorem dX8_cut_66 : decode cX8_cut 66 = .ok (.iload_n 3, 1) := by decide +kernel
theorem dX8_cut_67 : decode cX8_cut 67 = .ok (.ireturn, 1) := by decide +kernel
theorem dX8_time_0 : decode cX8_time 0 = .ok (.aload_n 0, 1) := by decide +kernel
theorem dX8_time_1 : decode cX8_time 1 = .ok (.iconst 0, 1) := by decide +kernel
theorem dX8_time_2 : decode cX8_time 2 = .ok (.putfield 59, 3) := by decide +kernel
theorem dX8_time_5 : decode cX8_time 5 = .ok (.aload_n 0, 1) := by decide +kernel
theorem dX8_time_6 : decode cX8_time 6 = .ok (.iload_n 1, 1) := by decide +kernel
theorem dX8_time_7 : decode cX8_time 7 = .ok (.invokevirtual 164, 3) := by decide +kernel
theorem dX8_time_10 : decode cX8_time 10 = .ok (.ifCond .ne 11, 3) := by decide +kernel
theorem dX8_time_13 : decode cX8_time 13 = .ok (.aload_n 0, 1) := by decide +kernel
theorem dX8_time_14 : decode cX8_time 14 = .ok (.iload_n 2, 1) := by decide +kernel
theorem dX8_time_15 : decode cX8_time 15 = .ok (.invokevirtual 164, 3) := by decide +kernel
theorem dX8_time_18 : decode cX8_time 18 = .ok (.ifCond .eq 5, 3) := by decide +kernel
theorem dX8_time_21 : decode cX8_time 21 = .ok (.iconst (-1), 1) := by decide +kernel
theorem dX8_time_22 : decode cX8_time 22 = .ok (.ireturn, 1) := by decide +kernel
theorem dX8_time_23 : decode cX8_time 23 = .ok (.iload_n 3, 1) := by decide +kernel
theorem dX8_time_24 : decode cX8_time 24 = .ok (.i2l, 1) := by decide +kernel
theorem dX8_time_25 : decode cX8_time 25 = .ok (.lconst 0, 1) := by decide +kernel
theorem dX8_time_26 : decode cX8_time 26 = .ok (.ldc2_w 168, 3) := by decide +kernel
theorem dX8_time_29 : decode cX8_time 29 = .ok (.invokestatic 63, 3) := by decide +kernel
theorem dX8_time_32 : decode cX8_time 32 = .ok (.ifCond .ne 6, 3) := by decide +kernel
theorem dX8_time_35 : decode cX8_time 35 = .ok (.bipush (-2), 2) := by decide +kernel
theorem dX8_time_37 : decode cX8_time 37 = .ok (.ireturn, 1) := by decide +kernel
theorem dX8_time_38 : decode cX8_time 38 = .ok (.aload_n 0, 1) := by decide +kernel
theorem dX8_time_39 : decode cX8_time 39 = .ok (.getfield 16, 3) := by decide +kernel
theorem dX8_time_42 : decode cX8_time 42 = .ok (.iload_n 1, 1) := by decide +kernel
theorem dX8_time_43 : decode cX8_time 43 = .ok (.iload_n 2, 1) := by decide +kernel
theorem dX8_time_44 : decode cX8_time 44 = .ok (.invokestatic 79, 3) := by decide +kernel
theorem dX8_time_47 : decode cX8_time 47 = .ok (.ifCond .ne 6, 3) := by decide +kernel
theorem dX8_time_50 : decode cX8_time 50 = .ok (.bipush (-3), 2) := by decide +kernel
theorem dX8_time_52 : decode cX8_time 52 = .ok (.ireturn, 1) := by decide +kernel
theorem dX8_time_53 : decode cX8_time 53 = .ok (.aload_n 0, 1) := by decide +kernel
theorem dX8_time_54 : decode cX8_time 54 = .ok (.invokevirtual 170, 3) := by decide +kernel
theorem dX8_time_57 : decode cX8_time 57 = .ok (.aload_n 0, 1) := by decide +kernel
theorem dX8_time_58 : decode cX8_time 58 = .ok (.getfield 16, 3) := by decide +kernel
theorem dX8_time_61 : decode cX8_time 61 = .ok (.iload_n 1, 1) := by decide +kernel
theorem dX8_time_62 : decode cX8_time 62 = .ok (.iload_n 2, 1) := by decide +kernel
theorem dX8_time_63 : decode cX8_time 63 = .ok (.invokestatic 67, 3) := by decide +kernel
theorem dX8_time_66 : decode cX8_time 66 = .ok (.istore 4, 2) := by decide +kernel
theorem dX8_time_68 : decode cX8_time 68 = .ok (.aload_n 0, 1) := by decide +kernel
theorem dX8_time_69 : decode cX8_time 69 = .ok (.getfield 16, 3) := by decide +kernel
theorem dX8_time_72 : decode cX8_time 72 = .ok (.iconst 1, 1) := by decide +kernel
theorem dX8_time_73 : decode cX8_time 73 = .ok (.bipush 6, 2) := by decide +kernel
theorem dX8_time_75 : decode cX8_time 75 = .ok (.iload_n 1, 1) := by decide +kernel
theorem dX8_time_76 : decode cX8_time 76 = .ok (.imul, 1) := by decide +kernel
theorem dX8_time_77 : decode cX8_time 77 = .ok (.iadd, 1) := by decide +kernel
theorem dX8_time_78 : decode cX8_time 78 = .ok (.iload_n 2, 1) := by decide +kernel
theorem dX8_time_79 : decode cX8_time 79 = .ok (.iadd, 1) := by decide +kernel
theorem dX8_time_80 : decode cX8_time 80 = .ok (.iload_n 3, 1) := by decide +kernel
theorem dX8_time_81 : decode cX8_time 81 = .ok (.iconst 1, 1) := by decide +kernel
theorem dX8_time_82 : decode cX8_time 82 = .ok (.iadd, 1) := by decide +kernel
theorem dX8_time_83 : decode cX8_time 83 = .ok (.iastore, 1) := by decide +kernel
theorem dX8_time_84 : decode cX8_time 84 = .ok (.iload 4, 2) := by decide +kernel
theorem dX8_time_86 : decode cX8_time 86 = .ok (.ireturn, 1) := by decide +kernel
theorem dX8_undo_0 : decode cX8_undo 0 = .ok (.aload_n 0, 1) := by decide +kernel
theorem dX8_undo_1 : decode cX8_undo 1 = .ok (.iconst 0, 1) := by decide +kernel
theorem dX8_undo_2 : decode cX8_undo 2 = .ok (.putfield 59, 3) := by decide +kernel
theorem dX8_undo_5 : decode cX8_undo 5 = .ok (.aload_n 0, 1) := by decide +kernel
theorem dX8_undo_6 : decode cX8_undo 6 = .ok (.getfield 102, 3) := by decide +kernel
theorem dX8_undo_9 : decode cX8_undo 9 = .ok (.ifCond .ne 6, 3) := by decide +kernel
theorem dX8_undo_12 : decode cX8_undo 12 = .ok (.bipush (-3), 2) := by decide +kernel
theorem dX8_undo_14 : decode cX8_undo 14 = .ok (.ireturn, 1) := by decide +kernel
theorem dX8_undo_15 : decode cX8_undo 15 = .ok (.aload_n 0, 1) := by decide +kernel
theorem dX8_undo_16 : decode cX8_undo 16 = .ok (.dup, 1) := by decide +kernel
theorem dX8_undo_17 : decode cX8_undo 17 = .ok (.getfield 102, 3) := by decide +kernel
theorem dX8_undo_20 : decode cX8_undo 20 = .ok (.iconst 1, 1) := by decide +kernel
theorem dX8_undo_21 : decode cX8_undo 21 = .ok (.isub, 1) := by decide +kernel
theorem dX8_undo_22 : decode cX8_undo 22 = .ok (.putfield 102, 3) := by decide +kernel
theorem dX8_undo_25 : decode cX8_undo 25 = .ok (.iconst 0, 1) := by decide +kernel
theorem dX8_undo_26 : decode cX8_undo 26 = .ok (.istore_n 1, 1) := by decide +kernel
theorem dX8_undo_27 : decode cX8_undo 27 = .ok (.iload_n 1, 1) := by decide +kernel
theorem dX8_undo_28 : decode cX8_undo 28 = .ok (.bipush 37, 2) := by decide +kernel
theorem dX8_undo_30 : decode cX8_undo 30 = .ok (.if_icmp .ge 29, 3) := by decide +kernel
theorem dX8_undo_33 : decode cX8_undo 33 = .ok (.aload_n 0, 1) := by decide +kernel
theorem dX8_undo_34 : decode cX8_undo 34 = .ok (.getfield 16, 3) := by decide +kernel
theorem dX8_undo_37 : decode cX8_undo 37 = .ok (.iload_n 1, 1) := by decide +kernel
theorem dX8_undo_38 : decode cX8_undo 38 = .ok (.aload_n 0, 1) := by decide +kernel
theorem dX8_undo_39 : decode cX8_undo 39 = .ok (.getfield 22, 3) := by decide +kernel
theorem dX8_undo_42 : decode cX8_undo 42 = .ok (.bipush 37, 2) := by decide +kernel
theorem dX8_undo_44 : decode cX8_undo 44 = .ok (.aload_n 0, 1) := by decide +kernel
theorem dX8_undo_45 : decode cX8_undo 45 = .ok (.getfield 102, 3) := by decide +kernel
theorem dX8_undo_48 : decode cX8_undo 48 = .ok (.imul, 1) := by decide +kernel
theorem dX8_undo_49 : decode cX8_undo 49 = .ok (.iload_n 1, 1) := by decide +kernel
theorem dX8_undo_50 : decode cX8_undo 50 = .ok (.iadd, 1) := by decide +kernel
theorem dX8_undo_51 : decode cX8_undo 51 = .ok (.iaload, 1) := by decide +kernel
theorem dX8_undo_52 : decode cX8_undo 52 = .ok (.iastore, 1) := by decide +kernel
theorem dX8_undo_53 : decode cX8_undo 53 = .ok (.iinc 1 1, 3) := by decide +kernel
theorem dX8_undo_56 : decode cX8_undo 56 = .ok (.goto (-29), 3) := by decide +kernel
theorem dX8_undo_59 : decode cX8_undo 59 = .ok (.aload_n 0, 1) := by decide +kernel
theorem dX8_undo_60 : decode cX8_undo 60 = .ok (.getfield 102, 3) := by decide +kernel
theorem dX8_undo_63 : decode cX8_undo 63 = .ok (.ireturn, 1) := by decide +kernel
theorem dX8_divisor_0 : decode cX8_divisor 0 = .ok (.iload_n 0, 1) := by decide +kernel
theorem dX8_divisor_1 : decode cX8_divisor 1 = .ok (.ifCond .ge 8, 3) := by decide +kernel
theorem dX8_divisor_4 : decode cX8_divisor 4 = .ok (.iload_n 0, 1) := by decide +kernel
theorem dX8_divisor_5 : decode cX8_divisor 5 = .ok (.ineg, 1) := by decide +kernel
theorem dX8_divisor_6 : decode cX8_divisor 6 = .ok (.goto 4, 3) := by decide +kernel
theorem dX8_divisor_9 : decode cX8_divisor 9 = .ok (.iload_n 0, 1) := by decide +kernel
theorem dX8_divisor_10 : decode cX8_divisor 10 = .ok (.istore_n 2, 1) := by decide +kernel
theorem dX8_divisor_11 : decode cX8_divisor 11 = .ok (.iload_n 1, 1) := by decide +kernel
theorem dX8_divisor_12 : decode cX8_divisor 12 = .ok (.istore_n 3, 1) := by decide +kernel
theorem dX8_divisor_13 : decode cX8_divisor 13 = .ok (.iload_n 3, 1) := by decide +kernel
theorem dX8_divisor_14 : decode cX8_divisor 14 = .ok (.ifCond .eq 16, 3) := by decide +kernel
theorem dX8_divisor_17 : decode cX8_divisor 17 = .ok (.iload_n 2, 1) := by decide +kernel
theorem dX8_divisor_18 : decode cX8_divisor 18 = .ok (.iload_n 3, 1) := by decide +kernel
theorem dX8_divisor_19 : decode cX8_divisor 19 = .ok (.irem, 1) := by decide +kernel
theorem dX8_divisor_20 : decode cX8_divisor 20 = .ok (.istore 4, 2) := by decide +kernel
theorem dX8_divisor_22 : decode cX8_divisor 22 = .ok (.iload_n 3, 1) := by decide +kernel
theorem dX8_divisor_23 : decode cX8_divisor 23 = .ok (.istore_n 2, 1) := by decide +kernel
theorem dX8_divisor_24 : decode cX8_divisor 24 = .ok (.iload 4, 2) := by decide +kernel
theorem dX8_divisor_26 : decode cX8_divisor 26 = .ok (.istore_n 3, 1) := by decide +kernel
theorem dX8_divisor_27 : decode cX8_divisor 27 = .ok (.goto (-14), 3) := by decide +kernel
theorem dX8_divisor_30 : decode cX8_divisor 30 = .ok (.iload_n 2, 1) := by decide +kernel
theorem dX8_divisor_31 : decode cX8_divisor 31 = .ok (.ireturn, 1) := by decide +kernel
theorem dX8_fraction_0 : decode cX8_fraction 0 = .ok (.iload_n 0, 1) := by decide +kernel
theorem dX8_fraction_1 : decode cX8_fraction 1 = .ok (.iload_n 1, 1) := by decide +kernel
theorem dX8_fraction_2 : decode cX8_fraction 2 = .ok (.invokestatic 173, 3) := by decide +kernel
theorem dX8_fraction_5 : decode cX8_fraction 5 = .ok (.istore_n 3, 1) := by decide +kernel
theorem dX8_fraction_6 : decode cX8_fraction 6 = .ok (.iload_n 2, 1) := by decide +kernel
theorem dX8_fraction_7 : decode cX8_fraction 7 = .ok (.ifCond .eq 9, 3) := by decide +kernel
theorem dX8_fraction_10 : decode cX8_fraction 10 = .ok (.iload_n 0, 1) := by decide +kernel
theorem dX8_fraction_11 : decode cX8_fraction 11 = .ok (.iload_n 3, 1) := by decide +kernel
theorem dX8_fraction_12 : decode cX8_fraction 12 = .ok (.idiv, 1) := by decide +kernel
theorem dX8_fraction_13 : decode cX8_fraction 13 = .ok (.goto 6, 3) := by decide +kernel
theorem dX8_fraction_16 : decode cX8_fraction 16 = .ok (.iload_n 1, 1) := by decide +kernel
theorem dX8_fraction_17 : decode cX8_fraction 17 = .ok (.iload_n 3, 1) := by decide +kernel
theorem dX8_fraction_18 : decode cX8_fraction 18 = .ok (.idiv, 1) := by decide +kernel
theorem dX8_fraction_19 : decode cX8_fraction 19 = .ok (.ireturn, 1) := by decide +kernel
theorem dX8_pace_0 : decode cX8_pace 0 = .ok (.aload_n 0, 1) := by decide +kernel
theorem dX8_pace_1 : decode cX8_pace 1 = .ok (.iconst 0, 1) := by decide +kernel
theorem dX8_pace_2 : decode cX8_pace 2 = .ok (.putfield 59, 3) := by decide +kernel
theorem dX8_pace_5 : decode cX8_pace 5 = .ok (.aload_n 0, 1) := by decide +kernel
theorem dX8_pace_6 : decode cX8_pace 6 = .ok (.aload_n 0, 1) := by decide +kernel
theorem dX8_pace_7 : decode cX8_pace 7 = .ok (.getfield 16, 3) := by decide +kernel
theorem dX8_pace_10 : decode cX8_pace 10 = .ok (.invokevirtual 146, 3) := by decide +kernel
theorem dX8_pace_13 : decode cX8_pace 13 = .ok (.aload_n 0, 1) := by decide +kernel
theorem dX8_pace_14 : decode cX8_pace 14 = .ok (.getfield 116, 3) := by decide +kernel
theorem dX8_pace_17 : decode cX8_pace 17 = .ok (.ifCond .ne 8, 3) := by decide +kernel
theorem dX8_pace_20 : decode cX8_pace 20 = .ok (.bipush (-9), 2) := by decide +kernel
theorem dX8_pace_22 : decode cX8_pace 22 = .ok (.goto 15, 3) := by decide +kernel
theorem dX8_pace_25 : decode cX8_pace 25 = .ok (.aload_n 0, 1) := by decide +kernel
theorem dX8_pace_26 : decode cX8_pace 26 = .ok (.getfield 119, 3) := by decide +kernel
theorem dX8_pace_29 : decode cX8_pace 29 = .ok (.aload_n 0, 1) := by decide +kernel
theorem dX8_pace_30 : decode cX8_pace 30 = .ok (.getfield 116, 3) := by decide +kernel
theorem dX8_pace_33 : decode cX8_pace 33 = .ok (.iload_n 1, 1) := by decide +kernel
theorem dX8_pace_34 : decode cX8_pace 34 = .ok (.invokestatic 177, 3) := by decide +kernel
theorem dX8_pace_37 : decode cX8_pace 37 = .ok (.ireturn, 1) := by decide +kernel
theorem dX8_critical_0 : decode cX8_critical 0 = .ok (.aload_n 0, 1) := by decide +kernel
theorem dX8_critical_1 : decode cX8_critical 1 = .ok (.iconst 0, 1) := by decide +kernel
theorem dX8_critical_2 : decode cX8_critical 2 = .ok (.putfield 59, 3) := by decide +kernel
theorem dX8_critical_5 : decode cX8_critical 5 = .ok (.aload_n 0, 1) := by decide +kernel
theorem dX8_critical_6 : decode cX8_critical 6 = .ok (.iload_n 1, 1) := by decide +kernel
theorem dX8_critical_7 : decode cX8_critical 7 = .ok (.invokevirtual 164, 3) := by decide +kernel
theorem dX8_critical_10 : decode cX8_critical 10 = .ok (.ifCond .ne 11, 3) := by decide +kernel
theorem dX8_critical_13 : decode cX8_critical 13 = .ok (.aload_n 0, 1) := by decide +kernel
theorem dX8_critical_14 : decode cX8_critical 14 = .ok (.iload_n 2, 1) := by decide +kernel
theorem dX8_critical_15 : decode cX8_critical 15 = .ok (.invokevirtual 164, 3) := by decide +kernel
theorem dX8_critical_18 : decode cX8_critical 18 = .ok (.ifCond .eq 5, 3) := by decide +kernel
theorem dX8_critical_21 : decode cX8_critical 21 = .ok (.iconst (-1), 1) := by decide +kernel
theorem dX8_critical_22 : decode cX8_critical 22 = .ok (.ireturn, 1) := by decide +kernel
theorem dX8_critical_23 : decode cX8_critical 23 = .ok (.aload_n 0, 1) := by decide +kernel
theorem dX8_critical_24 : decode cX8_critical 24 = .ok (.getfield 16, 3) := by decide +kernel
theorem dX8_critical_27 : decode cX8_critical 27 = .ok (.iload_n 1, 1) := by decide +kernel
theorem dX8_critical_28 : decode cX8_critical 28 = .ok (.iload_n 2, 1) := by decide +kernel
theorem dX8_critical_29 : decode cX8_critical 29 = .ok (.invokestatic 79, 3) := by decide +kernel
theorem dX8_critical_32 : decode cX8_critical 32 = .ok (.ifCond .ne 6, 3) := by decide +kernel
theorem dX8_critical_35 : decode cX8_critical 35 = .ok (.bipush (-3), 2) := by decide +kernel
theorem dX8_critical_37 : decode cX8_critical 37 = .ok (.ireturn, 1) := by decide +kernel
theorem dX8_critical_38 : decode cX8_critical 38 = .ok (.aload_n 0, 1) := by decide +kernel
theorem dX8_critical_39 : decode cX8_critical 39 = .ok (.aload_n 0, 1) := by decide +kernel
theorem dX8_critical_40 : decode cX8_critical 40 = .ok (.getfield 16, 3) := by decide +kernel
theorem dX8_critical_43 : decode cX8_critical 43 = .ok (.invokevirtual 146, 3) := by decide +kernel
theorem dX8_critical_46 : decode cX8_critical 46 = .ok (.aload_n 0, 1) := by decide +kernel
theorem dX8_critical_47 : decode cX8_critical 47 = .ok (.getfield 122, 3) := by decide +kernel
theorem dX8_critical_50 : decode cX8_critical 50 = .ok (.bipush 6, 2) := by decide +kernel
theorem dX8_critical_52 : decode cX8_critical 52 = .ok (.iload_n 1, 1) := by decide +kernel
theorem dX8_critical_53 : decode cX8_critical 53 = .ok (.imul, 1) := by decide +kernel
theorem dX8_critical_54 : decode cX8_critical 54 = .ok (.iload_n 2, 1) := by decide +kernel
theorem dX8_critical_55 : decode cX8_critical 55 = .ok (.iadd, 1) := by decide +kernel
theorem dX8_critical_56 : decode cX8_critical 56 = .ok (.lshr, 1) := by decide +kernel
theorem dX8_critical_57 : decode cX8_critical 57 = .ok (.lconst 1, 1) := by decide +kernel
theorem dX8_critical_58 : decode cX8_critical 58 = .ok (.land, 1) := by decide +kernel
theorem dX8_critical_59 : decode cX8_critical 59 = .ok (.l2i, 1) := by decide +kernel
theorem dX8_critical_60 : decode cX8_critical 60 = .ok (.ireturn, 1) := by decide +kernel
theorem dX8_layTimes_0 : decode cX8_layTimes 0 = .ok (.iconst 0, 1) := by decide +kernel
theorem dX8_layTimes_1 : decode cX8_layTimes 1 = .ok (.istore_n 3, 1) := by decide +kernel
theorem dX8_layTimes_2 : decode cX8_layTimes 2 = .ok (.iload_n 3, 1) := by decide +kernel
theorem dX8_layTimes_3 : decode cX8_layTimes 3 = .ok (.bipush 6, 2) := by decide +kernel
theorem dX8_layTimes_5 : decode cX8_layTimes 5 = .ok (.if_icmp .ge 16, 3) := by decide +kernel
theorem dX8_layTimes_8 : decode cX8_layTimes 8 = .ok (.aload_n 0, 1) := by decide +kernel
theorem dX8_layTimes_9 : decode cX8_layTimes 9 = .ok (.getfield 47, 3) := by decide +kernel
theorem dX8_layTimes_12 : decode cX8_layTimes 12 = .ok (.iload_n 3, 1) := by decide +kernel
theorem dX8_layTimes_13 : decode cX8_layTimes 13 = .ok (.iconst 0, 1) := by decide +kernel
theorem dX8_layTimes_14 : decode cX8_layTimes 14 = .ok (.iastore, 1) := by decide +kernel
theorem dX8_layTimes_15 : decode cX8_layTimes 15 = .ok (.iinc 3 1, 3) := by decide +kernel
theorem dX8_layTimes_18 : decode cX8_layTimes 18 = .ok (.goto (-16), 3) := by decide +kernel
theorem dX8_layTimes_21 : decode cX8_layTimes 21 = .ok (.iconst 0, 1) := by decide +kernel
theorem dX8_layTimes_22 : decode cX8_layTimes 22 = .ok (.istore_n 3, 1) := by decide +kernel
theorem dX8_layTimes_23 : decode cX8_layTimes 23 = .ok (.iload_n 3, 1) := by decide +kernel
theorem dX8_layTimes_24 : decode cX8_layTimes 24 = .ok (.bipush 6, 2) := by decide +kernel
theorem dX8_layTimes_26 : decode cX8_layTimes 26 = .ok (.if_icmp .ge 105, 3) := by decide +kernel
theorem dX8_layTimes_29 : decode cX8_layTimes 29 = .ok (.iconst 0, 1) := by decide +kernel
theorem dX8_layTimes_30 : decode cX8_layTimes 30 = .ok (.istore 4, 2) := by decide +kernel
theorem dX8_layTimes_32 : decode cX8_layTimes 32 = .ok (.iload 4, 2) := by decide +kernel
theorem dX8_layTimes_34 : decode cX8_layTimes 34 = .ok (.aload_n 1, 1) := by decide +kernel
theorem dX8_layTimes_35 : decode cX8_layTimes 35 = .ok (.iconst 0, 1) := by decide +kernel
theorem dX8_layTimes_36 : decode cX8_layTimes 36 = .ok (.iaload, 1) := by decide +kernel
theorem dX8_layTimes_37 : decode cX8_layTimes 37 = .ok (.if_icmp .ge 88, 3) := by decide +kernel
theorem dX8_layTimes_40 : decode cX8_layTimes 40 = .ok (.iconst 0, 1) := by decide +kernel
theorem dX8_layTimes_41 : decode cX8_layTimes 41 = .ok (.istore 5, 2) := by decide +kernel
theorem dX8_layTimes_43 : decode cX8_layTimes 43 = .ok (.iload 5, 2) := by decide +kernel
theorem dX8_layTimes_45 : decode cX8_layTimes 45 = .ok (.aload_n 1, 1) := by decide +kernel
theorem dX8_layTimes_46 : decode cX8_layTimes 46 = .ok (.iconst 0, 1) := by decide +kernel
theorem dX8_layTimes_47 : decode cX8_layTimes 47 = .ok (.iaload, 1) := by decide +kernel
theorem dX8_layTimes_48 : decode cX8_layTimes 48 = .ok (.if_icmp .ge 71, 3) := by decide +kernel
theorem dX8_layTimes_51 : decode cX8_layTimes 51 = .ok (.aload_n 0, 1) := by decide +kernel
theorem dX8_layTimes_52 : decode cX8_layTimes 52 = .ok (.getfield 47, 3) := by decide +kernel
theorem dX8_layTimes_55 : decode cX8_layTimes 55 = .ok (.iload 4, 2) := by decide +kernel
theorem dX8_layTimes_57 : decode cX8_layTimes 57 = .ok (.iaload, 1) := by decide +kernel
theorem dX8_layTimes_58 : decode cX8_layTimes 58 = .ok (.aload_n 1, 1) := by decide +kernel
theorem dX8_layTimes_59 : decode cX8_layTimes 59 = .ok (.iload 4, 2) := by decide +kernel
theorem dX8_layTimes_61 : decode cX8_layTimes 61 = .ok (.iload 5, 2) := by decide +kernel
theorem dX8_layTimes_63 : decode cX8_layTimes 63 = .ok (.invokestatic 67, 3) := by decide +kernel
theorem dX8_layTimes_66 : decode cX8_layTimes 66 = .ok (.iadd, 1) := by decide +kernel
theorem dX8_layTimes_67 : decode cX8_layTimes 67 = .ok (.iload_n 2, 1) := by decide +kernel
theorem dX8_layTimes_68 : decode cX8_layTimes 68 = .ok (.isub, 1) := by decide +kernel
theorem dX8_layTimes_69 : decode cX8_layTimes 69 = .ok (.istore 6, 2) := by decide +kernel
theorem dX8_layTimes_71 : decode cX8_layTimes 71 = .ok (.aload_n 0, 1) := by decide +kernel
theorem dX8_layTimes_72 : decode cX8_layTimes 72 = .ok (.getfield 47, 3) := by decide +kernel
theorem dX8_layTimes_75 : decode cX8_layTimes 75 = .ok (.iload 5, 2) := by decide +kernel
theorem dX8_layTimes_77 : decode cX8_layTimes 77 = .ok (.aload_n 1, 1) := by decide +kernel
theorem dX8_layTimes_78 : decode cX8_layTimes 78 = .ok (.iload 4, 2) := by decide +kernel
theorem dX8_layTimes_80 : decode cX8_layTimes 80 = .ok (.iload 5, 2) := by decide +kernel
theorem dX8_layTimes_82 : decode cX8_layTimes 82 = .ok (.invokestatic 79, 3) := by decide +kernel
theorem dX8_layTimes_85 : decode cX8_layTimes 85 = .ok (.ifCond .eq 20, 3) := by decide +kernel
theorem dX8_layTimes_88 : decode cX8_layTimes 88 = .ok (.iload 6, 2) := by decide +kernel
theorem dX8_layTimes_90 : decode cX8_layTimes 90 = .ok (.aload_n 0, 1) := by decide +kernel
theorem dX8_layTimes_91 : decode cX8_layTimes 91 = .ok (.getfield 47, 3) := by decide +kernel
theorem dX8_layTimes_94 : decode cX8_layTimes 94 = .ok (.iload 5, 2) := by decide +kernel
theorem dX8_layTimes_96 : decode cX8_layTimes 96 = .ok (.iaload, 1) := by decide +kernel
theorem dX8_layTimes_97 : decode cX8_layTimes 97 = .ok (.if_icmp .le 8, 3) := by decide +kernel
theorem dX8_layTimes_100 : decode cX8_layTimes 100 = .ok (.iload 6, 2) := by decide +kernel
theorem dX8_layTimes_102 : decode cX8_layTimes 102 = .ok (.goto 10, 3) := by decide +kernel
theorem dX8_layTimes_105 : decode cX8_layTimes 105 = .ok (.aload_n 0, 1) := by decide +kernel
theorem dX8_layTimes_106 : decode cX8_layTimes 106 = .ok (.getfield 47, 3) := by decide +kernel
theorem dX8_layTimes_109 : decode cX8_layTimes 109 = .ok (.iload 5, 2) := by decide +kernel
theorem dX8_layTimes_111 : decode cX8_layTimes 111 = .ok (.iaload, 1) := by decide +kernel
theorem dX8_layTimes_112 : decode cX8_layTimes 112 = .ok (.iastore, 1) := by decide +kernel
theorem dX8_layTimes_113 : decode cX8_layTimes 113 = .ok (.iinc 5 1, 3) := by decide +kernel
theorem dX8_layTimes_116 : decode cX8_layTimes 116 = .ok (.goto (-73), 3) := by decide +kernel
theorem dX8_layTimes_119 : decode cX8_layTimes 119 = .ok (.iinc 4 1, 3) := by decide +kernel
theorem dX8_layTimes_122 : decode cX8_layTimes 122 = .ok (.goto (-90), 3) := by decide +kernel
theorem dX8_layTimes_125 : decode cX8_layTimes 125 = .ok (.iinc 3 1, 3) := by decide +kernel
theorem dX8_layTimes_128 : decode cX8_layTimes 128 = .ok (.goto (-105), 3) := by decide +kernel
theorem dX8_layTimes_131 : decode cX8_layTimes 131 = .ok (.return_, 1) := by decide +kernel
theorem dX8_spareOf_0 : decode cX8_spareOf 0 = .ok (.aload_n 0, 1) := by decide +kernel
theorem dX8_spareOf_1 : decode cX8_spareOf 1 = .ok (.getfield 47, 3) := by decide +kernel
theorem dX8_spareOf_4 : decode cX8_spareOf 4 = .ok (.iload_n 3, 1) := by decide +kernel
theorem dX8_spareOf_5 : decode cX8_spareOf 5 = .ok (.iaload, 1) := by decide +kernel
theorem dX8_spareOf_6 : decode cX8_spareOf 6 = .ok (.iload 4, 2) := by decide +kernel
theorem dX8_spareOf_8 : decode cX8_spareOf 8 = .ok (.iadd, 1) := by decide +kernel
theorem dX8_spareOf_9 : decode cX8_spareOf 9 = .ok (.aload_n 0, 1) := by decide +kernel
theorem dX8_spareOf_10 : decode cX8_spareOf 10 = .ok (.getfield 47, 3) := by decide +kernel
theorem dX8_spareOf_13 : decode cX8_spareOf 13 = .ok (.iload_n 2, 1) := by decide +kernel
theorem dX8_spareOf_14 : decode cX8_spareOf 14 = .ok (.iaload, 1) := by decide +kernel
theorem dX8_spareOf_15 : decode cX8_spareOf 15 = .ok (.isub, 1) := by decide +kernel
theorem dX8_spareOf_16 : decode cX8_spareOf 16 = .ok (.aload_n 1, 1) := by decide +kernel
theorem dX8_spareOf_17 : decode cX8_spareOf 17 = .ok (.iload_n 2, 1) := by decide +kernel
theorem dX8_spareOf_18 : decode cX8_spareOf 18 = .ok (.iload_n 3, 1) := by decide +kernel
theorem dX8_spareOf_19 : decode cX8_spareOf 19 = .ok (.invokestatic 67, 3) := by decide +kernel
theorem dX8_spareOf_22 : decode cX8_spareOf 22 = .ok (.isub, 1) := by decide +kernel
theorem dX8_spareOf_23 : decode cX8_spareOf 23 = .ok (.ireturn, 1) := by decide +kernel
theorem dX8_departs_0 : decode cX8_departs 0 = .ok (.aload_n 0, 1) := by decide +kernel
theorem dX8_departs_1 : decode cX8_departs 1 = .ok (.iconst 0, 1) := by decide +kernel
theorem dX8_departs_2 : decode cX8_departs 2 = .ok (.putfield 59, 3) := by decide +kernel
theorem dX8_departs_5 : decode cX8_departs 5 = .ok (.aload_n 0, 1) := by decide +kernel
theorem dX8_departs_6 : decode cX8_departs 6 = .ok (.iload_n 1, 1) := by decide +kernel
theorem dX8_departs_7 : decode cX8_departs 7 = .ok (.invokevirtual 164, 3) := by decide +kernel
theorem dX8_departs_10 : decode cX8_departs 10 = .ok (.ifCond .eq 5, 3) := by decide +kernel
theorem dX8_departs_13 : decode cX8_departs 13 = .ok (.iconst (-1), 1) := by decide +kernel
theorem dX8_departs_14 : decode cX8_departs 14 = .ok (.ireturn, 1) := by decide +kernel
theorem dX8_departs_15 : decode cX8_departs 15 = .ok (.iload_n 2, 1) := by decide +kernel
theorem dX8_departs_16 : decode cX8_departs 16 = .ok (.i2l, 1) := by decide +kernel
theorem dX8_departs_17 : decode cX8_departs 17 = .ok (.lconst 0, 1) := by decide +kernel
theorem dX8_departs_18 : decode cX8_departs 18 = .ok (.ldc2_w 181, 3) := by decide +kernel
theorem dX8_departs_21 : decode cX8_departs 21 = .ok (.invokestatic 63, 3) := by decide +kernel
theorem dX8_departs_24 : decode cX8_departs 24 = .ok (.ifCond .ne 6, 3) := by decide +kernel
theorem dX8_departs_27 : decode cX8_departs 27 = .ok (.bipush (-2), 2) := by decide +kernel
theorem dX8_departs_29 : decode cX8_departs 29 = .ok (.ireturn, 1) := by decide +kernel
theorem dX8_departs_30 : decode cX8_departs 30 = .ok (.aload_n 0, 1) := by decide +kernel
theorem dX8_departs_31 : decode cX8_departs 31 = .ok (.aload_n 0, 1) := by decide +kernel
theorem dX8_departs_32 : decode cX8_departs 32 = .ok (.getfield 16, 3) := by decide +kernel
theorem dX8_departs_35 : decode cX8_departs 35 = .ok (.iload_n 2, 1) := by decide +kernel
theorem dX8_departs_36 : decode cX8_departs 36 = .ok (.invokevirtual 150, 3) := by decide +kernel
theorem dX8_departs_39 : decode cX8_departs 39 = .ok (.ifCond .ne 6, 3) := by decide +kernel
theorem dX8_departs_42 : decode cX8_departs 42 = .ok (.bipush (-3), 2) := by decide +kernel
theorem dX8_departs_44 : decode cX8_departs 44 = .ok (.ireturn, 1) := by decide +kernel
theorem dX8_departs_45 : decode cX8_departs 45 = .ok (.aload_n 0, 1) := by decide +kernel
theorem dX8_departs_46 : decode cX8_departs 46 = .ok (.aload_n 0, 1) := by decide +kernel
theorem dX8_departs_47 : decode cX8_departs 47 = .ok (.getfield 16, 3) := by decide +kernel
theorem dX8_departs_50 : decode cX8_departs 50 = .ok (.iload_n 2, 1) := by decide +kernel
theorem dX8_departs_51 : decode cX8_departs 51 = .ok (.invokevirtual 183, 3) := by decide +kernel
theorem dX8_departs_54 : decode cX8_departs 54 = .ok (.aload_n 0, 1) := by decide +kernel
theorem dX8_departs_55 : decode cX8_departs 55 = .ok (.getfield 47, 3) := by decide +kernel
theorem dX8_departs_58 : decode cX8_departs 58 = .ok (.iload_n 1, 1) := by decide +kernel
theorem dX8_departs_59 : decode cX8_departs 59 = .ok (.iaload, 1) := by decide +kernel
theorem dX8_departs_60 : decode cX8_departs 60 = .ok (.ireturn, 1) := by decide +kernel
theorem dX8_spare_0 : decode cX8_spare 0 = .ok (.aload_n 0, 1) := by decide +kernel
theorem dX8_spare_1 : decode cX8_spare 1 = .ok (.iconst 0, 1) := by decide +kernel
theorem dX8_spare_2 : decode cX8_spare 2 = .ok (.putfield 59, 3) := by decide +kernel
theorem dX8_spare_5 : decode cX8_spare 5 = .ok (.aload_n 0, 1) := by decide +kernel
theorem dX8_spare_6 : decode cX8_spare 6 = .ok (.iload_n 1, 1) := by decide +kernel
theorem dX8_spare_7 : decode cX8_spare 7 = .ok (.invokevirtual 164, 3) := by decide +kernel
theorem dX8_spare_10 : decode cX8_spare 10 = .ok (.ifCond .ne 11, 3) := by decide +kernel
theorem dX8_spare_13 : decode cX8_spare 13 = .ok (.aload_n 0, 1) := by decide +kernel
theorem dX8_spare_14 : decode cX8_spare 14 = .ok (.iload_n 2, 1) := by decide +kernel
theorem dX8_spare_15 : decode cX8_spare 15 = .ok (.invokevirtual 164, 3) := by decide +kernel
theorem dX8_spare_18 : decode cX8_spare 18 = .ok (.ifCond .eq 5, 3) := by decide +kernel
theorem dX8_spare_21 : decode cX8_spare 21 = .ok (.iconst (-1), 1) := by decide +kernel
theorem dX8_spare_22 : decode cX8_spare 22 = .ok (.ireturn, 1) := by decide +kernel
theorem dX8_spare_23 : decode cX8_spare 23 = .ok (.iload_n 3, 1) := by decide +kernel
theorem dX8_spare_24 : decode cX8_spare 24 = .ok (.i2l, 1) := by decide +kernel
theorem dX8_spare_25 : decode cX8_spare 25 = .ok (.lconst 0, 1) := by decide +kernel
theorem dX8_spare_26 : decode cX8_spare 26 = .ok (.ldc2_w 181, 3) := by decide +kernel
theorem dX8_spare_29 : decode cX8_spare 29 = .ok (.invokestatic 63, 3) := by decide +kernel
theorem dX8_spare_32 : decode cX8_spare 32 = .ok (.ifCond .ne 6, 3) := by decide +kernel
theorem dX8_spare_35 : decode cX8_spare 35 = .ok (.bipush (-2), 2) := by decide +kernel
theorem dX8_spare_37 : decode cX8_spare 37 = .ok (.ireturn, 1) := by decide +kernel
theorem dX8_spare_38 : decode cX8_spare 38 = .ok (.aload_n 0, 1) := by decide +kernel
theorem dX8_spare_39 : decode cX8_spare 39 = .ok (.getfield 16, 3) := by decide +kernel
theorem dX8_spare_42 : decode cX8_spare 42 = .ok (.iload_n 1, 1) := by decide +kernel
theorem dX8_spare_43 : decode cX8_spare 43 = .ok (.iload_n 2, 1) := by decide +kernel
theorem dX8_spare_44 : decode cX8_spare 44 = .ok (.invokestatic 79, 3) := by decide +kernel
theorem dX8_spare_47 : decode cX8_spare 47 = .ok (.ifCond .eq 15, 3) := by decide +kernel
theorem dX8_spare_50 : decode cX8_spare 50 = .ok (.aload_n 0, 1) := by decide +kernel
theorem dX8_spare_51 : decode cX8_spare 51 = .ok (.aload_n 0, 1) := by decide +kernel
theorem dX8_spare_52 : decode cX8_spare 52 = .ok (.getfield 16, 3) := by decide +kernel
theorem dX8_spare_55 : decode cX8_spare 55 = .ok (.iload_n 3, 1) := by decide +kernel
theorem dX8_spare_56 : decode cX8_spare 56 = .ok (.invokevirtual 150, 3) := by decide +kernel
theorem dX8_spare_59 : decode cX8_spare 59 = .ok (.ifCond .ne 6, 3) := by decide +kernel
theorem dX8_spare_62 : decode cX8_spare 62 = .ok (.bipush (-3), 2) := by decide +kernel
theorem dX8_spare_64 : decode cX8_spare 64 = .ok (.ireturn, 1) := by decide +kernel
theorem dX8_spare_65 : decode cX8_spare 65 = .ok (.aload_n 0, 1) := by decide +kernel
theorem dX8_spare_66 : decode cX8_spare 66 = .ok (.aload_n 0, 1) := by decide +kernel
theorem dX8_spare_67 : decode cX8_spare 67 = .ok (.getfield 16, 3) := by decide +kernel
theorem dX8_spare_70 : decode cX8_spare 70 = .ok (.iload_n 3, 1) := by decide +kernel
theorem dX8_spare_71 : decode cX8_spare 71 = .ok (.invokevirtual 183, 3) := by decide +kernel
theorem dX8_spare_74 : decode cX8_spare 74 = .ok (.aload_n 0, 1) := by decide +kernel
theorem dX8_spare_75 : decode cX8_spare 75 = .ok (.aload_n 0, 1) := by decide +kernel
theorem dX8_spare_76 : decode cX8_spare 76 = .ok (.getfield 16, 3) := by decide +kernel
theorem dX8_spare_79 : decode cX8_spare 79 = .ok (.iload_n 1, 1) := by decide +kernel
theorem dX8_spare_80 : decode cX8_spare 80 = .ok (.iload_n 2, 1) := by decide +kernel
theorem dX8_spare_81 : decode cX8_spare 81 = .ok (.iload_n 3, 1) := by decide +kernel
theorem dX8_spare_82 : decode cX8_spare 82 = .ok (.invokevirtual 186, 3) := by decide +kernel
theorem dX8_spare_85 : decode cX8_spare 85 = .ok (.ireturn, 1) := by decide +kernel
theorem dX8_beginLate_0 : decode cX8_beginLate 0 = .ok (.iconst 0, 1) := by decide +kernel
theorem dX8_beginLate_1 : decode cX8_beginLate 1 = .ok (.istore_n 3, 1) := by decide +kernel
end
section
theorem dX8_beginLate_2 : decode cX8_beginLate 2 = .ok (.iload_n 3, 1) := by decide +kernel
theorem dX8_beginLate_3 : decode cX8_beginLate 3 = .ok (.bipush 6, 2) := by decide +kernel
theorem dX8_beginLate_5 : decode cX8_beginLate 5 = .ok (.if_icmp .ge 25, 3) := by decide +kernel
theorem dX8_beginLate_8 : decode cX8_beginLate 8 = .ok (.aload_n 0, 1) := by decide +kernel
theorem dX8_beginLate_9 : decode cX8_beginLate 9 = .ok (.getfield 50, 3) := by decide +kernel
theorem dX8_beginLate_12 : decode cX8_beginLate 12 = .ok (.iload_n 3, 1) := by decide +kernel
theorem dX8_beginLate_13 : decode cX8_beginLate 13 = .ok (.iload_n 3, 1) := by decide +kernel
theorem dX8_beginLate_14 : decode cX8_beginLate 14 = .ok (.iload_n 1, 1) := by decide +kernel
theorem dX8_beginLate_15 : decode cX8_beginLate 15 = .ok (.if_icmp .ne 7, 3) := by decide +kernel
theorem dX8_beginLate_18 : decode cX8_beginLate 18 = .ok (.iload_n 2, 1) := by decide +kernel
theorem dX8_beginLate_19 : decode cX8_beginLate 19 = .ok (.goto 4, 3) := by decide +kernel
theorem dX8_beginLate_22 : decode cX8_beginLate 22 = .ok (.iconst 0, 1) := by decide +kernel
theorem dX8_beginLate_23 : decode cX8_beginLate 23 = .ok (.iastore, 1) := by decide +kernel
theorem dX8_beginLate_24 : decode cX8_beginLate 24 = .ok (.iinc 3 1, 3) := by decide +kernel
theorem dX8_beginLate_27 : decode cX8_beginLate 27 = .ok (.goto (-25), 3) := by decide +kernel
theorem dX8_beginLate_30 : decode cX8_beginLate 30 = .ok (.return_, 1) := by decide +kernel
theorem dX8_goRound_0 : decode cX8_goRound 0 = .ok (.iconst 0, 1) := by decide +kernel
theorem dX8_goRound_1 : decode cX8_goRound 1 = .ok (.istore_n 3, 1) := by decide +kernel
theorem dX8_goRound_2 : decode cX8_goRound 2 = .ok (.iconst 0, 1) := by decide +kernel
theorem dX8_goRound_3 : decode cX8_goRound 3 = .ok (.istore 4, 2) := by decide +kernel
theorem dX8_goRound_5 : decode cX8_goRound 5 = .ok (.iload 4, 2) := by decide +kernel
theorem dX8_goRound_7 : decode cX8_goRound 7 = .ok (.bipush 6, 2) := by decide +kernel
theorem dX8_goRound_9 : decode cX8_goRound 9 = .ok (.if_icmp .ge 118, 3) := by decide +kernel
theorem dX8_goRound_12 : decode cX8_goRound 12 = .ok (.aload_n 0, 1) := by decide +kernel
theorem dX8_goRound_13 : decode cX8_goRound 13 = .ok (.getfield 53, 3) := by decide +kernel
theorem dX8_goRound_16 : decode cX8_goRound 16 = .ok (.iload 4, 2) := by decide +kernel
theorem dX8_goRound_18 : decode cX8_goRound 18 = .ok (.iconst 0, 1) := by decide +kernel
theorem dX8_goRound_19 : decode cX8_goRound 19 = .ok (.iastore, 1) := by decide +kernel
theorem dX8_goRound_20 : decode cX8_goRound 20 = .ok (.iconst 0, 1) := by decide +kernel
theorem dX8_goRound_21 : decode cX8_goRound 21 = .ok (.istore 5, 2) := by decide +kernel
theorem dX8_goRound_23 : decode cX8_goRound 23 = .ok (.iload 5, 2) := by decide +kernel
theorem dX8_goRound_25 : decode cX8_goRound 25 = .ok (.aload_n 1, 1) := by decide +kernel
theorem dX8_goRound_26 : decode cX8_goRound 26 = .ok (.iconst 0, 1) := by decide +kernel
theorem dX8_goRound_27 : decode cX8_goRound 27 = .ok (.iaload, 1) := by decide +kernel
theorem dX8_goRound_28 : decode cX8_goRound 28 = .ok (.if_icmp .ge 83, 3) := by decide +kernel
theorem dX8_goRound_31 : decode cX8_goRound 31 = .ok (.iload 4, 2) := by decide +kernel
theorem dX8_goRound_33 : decode cX8_goRound 33 = .ok (.aload_n 1, 1) := by decide +kernel
theorem dX8_goRound_34 : decode cX8_goRound 34 = .ok (.iconst 0, 1) := by decide +kernel
theorem dX8_goRound_35 : decode cX8_goRound 35 = .ok (.iaload, 1) := by decide +kernel
theorem dX8_goRound_36 : decode cX8_goRound 36 = .ok (.if_icmp .ge 75, 3) := by decide +kernel
theorem dX8_goRound_39 : decode cX8_goRound 39 = .ok (.aload_n 1, 1) := by decide +kernel
theorem dX8_goRound_40 : decode cX8_goRound 40 = .ok (.iload 5, 2) := by decide +kernel
theorem dX8_goRound_42 : decode cX8_goRound 42 = .ok (.iload 4, 2) := by decide +kernel
theorem dX8_goRound_44 : decode cX8_goRound 44 = .ok (.invokestatic 79, 3) := by decide +kernel
theorem dX8_goRound_47 : decode cX8_goRound 47 = .ok (.ifCond .eq 24, 3) := by decide +kernel
theorem dX8_goRound_50 : decode cX8_goRound 50 = .ok (.aload_n 0, 1) := by decide +kernel
theorem dX8_goRound_51 : decode cX8_goRound 51 = .ok (.getfield 50, 3) := by decide +kernel
theorem dX8_goRound_54 : decode cX8_goRound 54 = .ok (.iload 5, 2) := by decide +kernel
theorem dX8_goRound_56 : decode cX8_goRound 56 = .ok (.iaload, 1) := by decide +kernel
theorem dX8_goRound_57 : decode cX8_goRound 57 = .ok (.aload_n 0, 1) := by decide +kernel
theorem dX8_goRound_58 : decode cX8_goRound 58 = .ok (.aload_n 1, 1) := by decide +kernel
theorem dX8_goRound_59 : decode cX8_goRound 59 = .ok (.iload 5, 2) := by decide +kernel
theorem dX8_goRound_61 : decode cX8_goRound 61 = .ok (.iload 4, 2) := by decide +kernel
theorem dX8_goRound_63 : decode cX8_goRound 63 = .ok (.iload_n 2, 1) := by decide +kernel
theorem dX8_goRound_64 : decode cX8_goRound 64 = .ok (.invokevirtual 186, 3) := by decide +kernel
theorem dX8_goRound_67 : decode cX8_goRound 67 = .ok (.isub, 1) := by decide +kernel
theorem dX8_goRound_68 : decode cX8_goRound 68 = .ok (.goto 4, 3) := by decide +kernel
theorem dX8_goRound_71 : decode cX8_goRound 71 = .ok (.iconst 0, 1) := by decide +kernel
theorem dX8_goRound_72 : decode cX8_goRound 72 = .ok (.istore 6, 2) := by decide +kernel
theorem dX8_goRound_74 : decode cX8_goRound 74 = .ok (.aload_n 0, 1) := by decide +kernel
theorem dX8_goRound_75 : decode cX8_goRound 75 = .ok (.getfield 53, 3) := by decide +kernel
theorem dX8_goRound_78 : decode cX8_goRound 78 = .ok (.iload 4, 2) := by decide +kernel
theorem dX8_goRound_80 : decode cX8_goRound 80 = .ok (.iload 6, 2) := by decide +kernel
theorem dX8_goRound_82 : decode cX8_goRound 82 = .ok (.aload_n 0, 1) := by decide +kernel
theorem dX8_goRound_83 : decode cX8_goRound 83 = .ok (.getfield 53, 3) := by decide +kernel
theorem dX8_goRound_86 : decode cX8_goRound 86 = .ok (.iload 4, 2) := by decide +kernel
theorem dX8_goRound_88 : decode cX8_goRound 88 = .ok (.iaload, 1) := by decide +kernel
theorem dX8_goRound_89 : decode cX8_goRound 89 = .ok (.if_icmp .le 8, 3) := by decide +kernel
theorem dX8_goRound_92 : decode cX8_goRound 92 = .ok (.iload 6, 2) := by decide +kernel
theorem dX8_goRound_94 : decode cX8_goRound 94 = .ok (.goto 10, 3) := by decide +kernel
theorem dX8_goRound_97 : decode cX8_goRound 97 = .ok (.aload_n 0, 1) := by decide +kernel
theorem dX8_goRound_98 : decode cX8_goRound 98 = .ok (.getfield 53, 3) := by decide +kernel
theorem dX8_goRound_101 : decode cX8_goRound 101 = .ok (.iload 4, 2) := by decide +kernel
theorem dX8_goRound_103 : decode cX8_goRound 103 = .ok (.iaload, 1) := by decide +kernel
theorem dX8_goRound_104 : decode cX8_goRound 104 = .ok (.iastore, 1) := by decide +kernel
theorem dX8_goRound_105 : decode cX8_goRound 105 = .ok (.iinc 5 1, 3) := by decide +kernel
theorem dX8_goRound_108 : decode cX8_goRound 108 = .ok (.goto (-85), 3) := by decide +kernel
theorem dX8_goRound_111 : decode cX8_goRound 111 = .ok (.iload_n 3, 1) := by decide +kernel
theorem dX8_goRound_112 : decode cX8_goRound 112 = .ok (.aload_n 0, 1) := by decide +kernel
theorem dX8_goRound_113 : decode cX8_goRound 113 = .ok (.getfield 53, 3) := by decide +kernel
theorem dX8_goRound_116 : decode cX8_goRound 116 = .ok (.iload 4, 2) := by decide +kernel
theorem dX8_goRound_118 : decode cX8_goRound 118 = .ok (.iaload, 1) := by decide +kernel
theorem dX8_goRound_119 : decode cX8_goRound 119 = .ok (.iadd, 1) := by decide +kernel
theorem dX8_goRound_120 : decode cX8_goRound 120 = .ok (.istore_n 3, 1) := by decide +kernel
theorem dX8_goRound_121 : decode cX8_goRound 121 = .ok (.iinc 4 1, 3) := by decide +kernel
theorem dX8_goRound_124 : decode cX8_goRound 124 = .ok (.goto (-119), 3) := by decide +kernel
theorem dX8_goRound_127 : decode cX8_goRound 127 = .ok (.iconst 0, 1) := by decide +kernel
theorem dX8_goRound_128 : decode cX8_goRound 128 = .ok (.istore 4, 2) := by decide +kernel
theorem dX8_goRound_130 : decode cX8_goRound 130 = .ok (.iload 4, 2) := by decide +kernel
theorem dX8_goRound_132 : decode cX8_goRound 132 = .ok (.bipush 6, 2) := by decide +kernel
theorem dX8_goRound_134 : decode cX8_goRound 134 = .ok (.if_icmp .ge 23, 3) := by decide +kernel
theorem dX8_goRound_137 : decode cX8_goRound 137 = .ok (.aload_n 0, 1) := by decide +kernel
theorem dX8_goRound_138 : decode cX8_goRound 138 = .ok (.getfield 50, 3) := by decide +kernel
theorem dX8_goRound_141 : decode cX8_goRound 141 = .ok (.iload 4, 2) := by decide +kernel
theorem dX8_goRound_143 : decode cX8_goRound 143 = .ok (.aload_n 0, 1) := by decide +kernel
theorem dX8_goRound_144 : decode cX8_goRound 144 = .ok (.getfield 53, 3) := by decide +kernel
theorem dX8_goRound_147 : decode cX8_goRound 147 = .ok (.iload 4, 2) := by decide +kernel
theorem dX8_goRound_149 : decode cX8_goRound 149 = .ok (.iaload, 1) := by decide +kernel
theorem dX8_goRound_150 : decode cX8_goRound 150 = .ok (.iastore, 1) := by decide +kernel
theorem dX8_goRound_151 : decode cX8_goRound 151 = .ok (.iinc 4 1, 3) := by decide +kernel
theorem dX8_goRound_154 : decode cX8_goRound 154 = .ok (.goto (-24), 3) := by decide +kernel
theorem dX8_goRound_157 : decode cX8_goRound 157 = .ok (.iload_n 3, 1) := by decide +kernel
theorem dX8_goRound_158 : decode cX8_goRound 158 = .ok (.ireturn, 1) := by decide +kernel
theorem dX8_late_0 : decode cX8_late 0 = .ok (.aload_n 0, 1) := by decide +kernel
theorem dX8_late_1 : decode cX8_late 1 = .ok (.iconst 0, 1) := by decide +kernel
theorem dX8_late_2 : decode cX8_late 2 = .ok (.putfield 59, 3) := by decide +kernel
theorem dX8_late_5 : decode cX8_late 5 = .ok (.aload_n 0, 1) := by decide +kernel
theorem dX8_late_6 : decode cX8_late 6 = .ok (.iload_n 1, 1) := by decide +kernel
theorem dX8_late_7 : decode cX8_late 7 = .ok (.invokevirtual 164, 3) := by decide +kernel
theorem dX8_late_10 : decode cX8_late 10 = .ok (.ifCond .ne 12, 3) := by decide +kernel
theorem dX8_late_13 : decode cX8_late 13 = .ok (.aload_n 0, 1) := by decide +kernel
theorem dX8_late_14 : decode cX8_late 14 = .ok (.iload 4, 2) := by decide +kernel
theorem dX8_late_16 : decode cX8_late 16 = .ok (.invokevirtual 164, 3) := by decide +kernel
theorem dX8_late_19 : decode cX8_late 19 = .ok (.ifCond .eq 5, 3) := by decide +kernel
theorem dX8_late_22 : decode cX8_late 22 = .ok (.iconst (-1), 1) := by decide +kernel
theorem dX8_late_23 : decode cX8_late 23 = .ok (.ireturn, 1) := by decide +kernel
theorem dX8_late_24 : decode cX8_late 24 = .ok (.iload_n 2, 1) := by decide +kernel
theorem dX8_late_25 : decode cX8_late 25 = .ok (.i2l, 1) := by decide +kernel
theorem dX8_late_26 : decode cX8_late 26 = .ok (.lconst 1, 1) := by decide +kernel
theorem dX8_late_27 : decode cX8_late 27 = .ok (.ldc2_w 190, 3) := by decide +kernel
theorem dX8_late_30 : decode cX8_late 30 = .ok (.invokestatic 63, 3) := by decide +kernel
theorem dX8_late_33 : decode cX8_late 33 = .ok (.ifCond .eq 28, 3) := by decide +kernel
theorem dX8_late_36 : decode cX8_late 36 = .ok (.iload_n 3, 1) := by decide +kernel
theorem dX8_late_37 : decode cX8_late 37 = .ok (.i2l, 1) := by decide +kernel
theorem dX8_late_38 : decode cX8_late 38 = .ok (.lconst 0, 1) := by decide +kernel
theorem dX8_late_39 : decode cX8_late 39 = .ok (.ldc2_w 181, 3) := by decide +kernel
theorem dX8_late_42 : decode cX8_late 42 = .ok (.invokestatic 63, 3) := by decide +kernel
theorem dX8_late_45 : decode cX8_late 45 = .ok (.ifCond .eq 16, 3) := by decide +kernel
theorem dX8_late_48 : decode cX8_late 48 = .ok (.iload 5, 2) := by decide +kernel
theorem dX8_late_50 : decode cX8_late 50 = .ok (.i2l, 1) := by decide +kernel
theorem dX8_late_51 : decode cX8_late 51 = .ok (.lconst 0, 1) := by decide +kernel
theorem dX8_late_52 : decode cX8_late 52 = .ok (.ldc2_w 192, 3) := by decide +kernel
theorem dX8_late_55 : decode cX8_late 55 = .ok (.invokestatic 63, 3) := by decide +kernel
theorem dX8_late_58 : decode cX8_late 58 = .ok (.ifCond .ne 6, 3) := by decide +kernel
theorem dX8_late_61 : decode cX8_late 61 = .ok (.bipush (-2), 2) := by decide +kernel
theorem dX8_late_63 : decode cX8_late 63 = .ok (.ireturn, 1) := by decide +kernel
theorem dX8_late_64 : decode cX8_late 64 = .ok (.aload_n 0, 1) := by decide +kernel
theorem dX8_late_65 : decode cX8_late 65 = .ok (.aload_n 0, 1) := by decide +kernel
theorem dX8_late_66 : decode cX8_late 66 = .ok (.getfield 16, 3) := by decide +kernel
theorem dX8_late_69 : decode cX8_late 69 = .ok (.iload_n 3, 1) := by decide +kernel
theorem dX8_late_70 : decode cX8_late 70 = .ok (.invokevirtual 150, 3) := by decide +kernel
theorem dX8_late_73 : decode cX8_late 73 = .ok (.ifCond .ne 6, 3) := by decide +kernel
theorem dX8_late_76 : decode cX8_late 76 = .ok (.bipush (-3), 2) := by decide +kernel
theorem dX8_late_78 : decode cX8_late 78 = .ok (.ireturn, 1) := by decide +kernel
theorem dX8_late_79 : decode cX8_late 79 = .ok (.aload_n 0, 1) := by decide +kernel
theorem dX8_late_80 : decode cX8_late 80 = .ok (.aload_n 0, 1) := by decide +kernel
theorem dX8_late_81 : decode cX8_late 81 = .ok (.getfield 16, 3) := by decide +kernel
theorem dX8_late_84 : decode cX8_late 84 = .ok (.iload_n 3, 1) := by decide +kernel
theorem dX8_late_85 : decode cX8_late 85 = .ok (.invokevirtual 183, 3) := by decide +kernel
theorem dX8_late_88 : decode cX8_late 88 = .ok (.aload_n 0, 1) := by decide +kernel
theorem dX8_late_89 : decode cX8_late 89 = .ok (.iload_n 1, 1) := by decide +kernel
theorem dX8_late_90 : decode cX8_late 90 = .ok (.iload_n 2, 1) := by decide +kernel
theorem dX8_late_91 : decode cX8_late 91 = .ok (.invokevirtual 194, 3) := by decide +kernel
theorem dX8_late_94 : decode cX8_late 94 = .ok (.iconst 0, 1) := by decide +kernel
theorem dX8_late_95 : decode cX8_late 95 = .ok (.istore 6, 2) := by decide +kernel
theorem dX8_late_97 : decode cX8_late 97 = .ok (.iload 6, 2) := by decide +kernel
theorem dX8_late_99 : decode cX8_late 99 = .ok (.iload 5, 2) := by decide +kernel
theorem dX8_late_101 : decode cX8_late 101 = .ok (.if_icmp .ge 19, 3) := by decide +kernel
theorem dX8_late_104 : decode cX8_late 104 = .ok (.aload_n 0, 1) := by decide +kernel
theorem dX8_late_105 : decode cX8_late 105 = .ok (.aload_n 0, 1) := by decide +kernel
theorem dX8_late_106 : decode cX8_late 106 = .ok (.getfield 16, 3) := by decide +kernel
theorem dX8_late_109 : decode cX8_late 109 = .ok (.iload_n 3, 1) := by decide +kernel
theorem dX8_late_110 : decode cX8_late 110 = .ok (.invokevirtual 198, 3) := by decide +kernel
theorem dX8_late_113 : decode cX8_late 113 = .ok (.pop, 1) := by decide +kernel
theorem dX8_late_114 : decode cX8_late 114 = .ok (.iinc 6 1, 3) := by decide +kernel
theorem dX8_late_117 : decode cX8_late 117 = .ok (.goto (-20), 3) := by decide +kernel
theorem dX8_late_120 : decode cX8_late 120 = .ok (.aload_n 0, 1) := by decide +kernel
theorem dX8_late_121 : decode cX8_late 121 = .ok (.getfield 50, 3) := by decide +kernel
theorem dX8_late_124 : decode cX8_late 124 = .ok (.iload 4, 2) := by decide +kernel
theorem dX8_late_126 : decode cX8_late 126 = .ok (.iaload, 1) := by decide +kernel
theorem dX8_late_127 : decode cX8_late 127 = .ok (.ireturn, 1) := by decide +kernel
theorem dX8_diesOf_0 : decode cX8_diesOf 0 = .ok (.aload_n 0, 1) := by decide +kernel
theorem dX8_diesOf_1 : decode cX8_diesOf 1 = .ok (.aload_n 1, 1) := by decide +kernel
theorem dX8_diesOf_2 : decode cX8_diesOf 2 = .ok (.iload 4, 2) := by decide +kernel
theorem dX8_diesOf_4 : decode cX8_diesOf 4 = .ok (.invokevirtual 183, 3) := by decide +kernel
theorem dX8_diesOf_7 : decode cX8_diesOf 7 = .ok (.aload_n 0, 1) := by decide +kernel
theorem dX8_diesOf_8 : decode cX8_diesOf 8 = .ok (.iload_n 2, 1) := by decide +kernel
theorem dX8_diesOf_9 : decode cX8_diesOf 9 = .ok (.iload_n 3, 1) := by decide +kernel
theorem dX8_diesOf_10 : decode cX8_diesOf 10 = .ok (.invokevirtual 194, 3) := by decide +kernel
theorem dX8_diesOf_13 : decode cX8_diesOf 13 = .ok (.iconst 1, 1) := by decide +kernel
theorem dX8_diesOf_14 : decode cX8_diesOf 14 = .ok (.istore 5, 2) := by decide +kernel
theorem dX8_diesOf_16 : decode cX8_diesOf 16 = .ok (.iload 5, 2) := by decide +kernel
theorem dX8_diesOf_18 : decode cX8_diesOf 18 = .ok (.bipush 40, 2) := by decide +kernel
theorem dX8_diesOf_20 : decode cX8_diesOf 20 = .ok (.if_icmp .gt 22, 3) := by decide +kernel
theorem dX8_diesOf_23 : decode cX8_diesOf 23 = .ok (.aload_n 0, 1) := by decide +kernel
theorem dX8_diesOf_24 : decode cX8_diesOf 24 = .ok (.aload_n 1, 1) := by decide +kernel
theorem dX8_diesOf_25 : decode cX8_diesOf 25 = .ok (.iload 4, 2) := by decide +kernel
theorem dX8_diesOf_27 : decode cX8_diesOf 27 = .ok (.invokevirtual 198, 3) := by decide +kernel
theorem dX8_diesOf_30 : decode cX8_diesOf 30 = .ok (.ifCond .ne 6, 3) := by decide +kernel
theorem dX8_diesOf_33 : decode cX8_diesOf 33 = .ok (.iload 5, 2) := by decide +kernel
theorem dX8_diesOf_35 : decode cX8_diesOf 35 = .ok (.ireturn, 1) := by decide +kernel
theorem dX8_diesOf_36 : decode cX8_diesOf 36 = .ok (.iinc 5 1, 3) := by decide +kernel
theorem dX8_diesOf_39 : decode cX8_diesOf 39 = .ok (.goto (-23), 3) := by decide +kernel
theorem dX8_diesOf_42 : decode cX8_diesOf 42 = .ok (.bipush (-9), 2) := by decide +kernel
theorem dX8_diesOf_44 : decode cX8_diesOf 44 = .ok (.ireturn, 1) := by decide +kernel
theorem dX8_dies_0 : decode cX8_dies 0 = .ok (.aload_n 0, 1) := by decide +kernel
theorem dX8_dies_1 : decode cX8_dies 1 = .ok (.iconst 0, 1) := by decide +kernel
theorem dX8_dies_2 : decode cX8_dies 2 = .ok (.putfield 59, 3) := by decide +kernel
theorem dX8_dies_5 : decode cX8_dies 5 = .ok (.aload_n 0, 1) := by decide +kernel
theorem dX8_dies_6 : decode cX8_dies 6 = .ok (.iload_n 1, 1) := by decide +kernel
theorem dX8_dies_7 : decode cX8_dies 7 = .ok (.invokevirtual 164, 3) := by decide +kernel
theorem dX8_dies_10 : decode cX8_dies 10 = .ok (.ifCond .eq 5, 3) := by decide +kernel
theorem dX8_dies_13 : decode cX8_dies 13 = .ok (.iconst (-1), 1) := by decide +kernel
theorem dX8_dies_14 : decode cX8_dies 14 = .ok (.ireturn, 1) := by decide +kernel
theorem dX8_dies_15 : decode cX8_dies 15 = .ok (.iload_n 2, 1) := by decide +kernel
theorem dX8_dies_16 : decode cX8_dies 16 = .ok (.i2l, 1) := by decide +kernel
theorem dX8_dies_17 : decode cX8_dies 17 = .ok (.lconst 1, 1) := by decide +kernel
theorem dX8_dies_18 : decode cX8_dies 18 = .ok (.ldc2_w 190, 3) := by decide +kernel
theorem dX8_dies_21 : decode cX8_dies 21 = .ok (.invokestatic 63, 3) := by decide +kernel
theorem dX8_dies_24 : decode cX8_dies 24 = .ok (.ifCond .eq 15, 3) := by decide +kernel
theorem dX8_dies_27 : decode cX8_dies 27 = .ok (.iload_n 3, 1) := by decide +kernel
theorem dX8_dies_28 : decode cX8_dies 28 = .ok (.i2l, 1) := by decide +kernel
theorem dX8_dies_29 : decode cX8_dies 29 = .ok (.lconst 0, 1) := by decide +kernel
theorem dX8_dies_30 : decode cX8_dies 30 = .ok (.ldc2_w 181, 3) := by decide +kernel
theorem dX8_dies_33 : decode cX8_dies 33 = .ok (.invokestatic 63, 3) := by decide +kernel
theorem dX8_dies_36 : decode cX8_dies 36 = .ok (.ifCond .ne 6, 3) := by decide +kernel
theorem dX8_dies_39 : decode cX8_dies 39 = .ok (.bipush (-2), 2) := by decide +kernel
theorem dX8_dies_41 : decode cX8_dies 41 = .ok (.ireturn, 1) := by decide +kernel
theorem dX8_dies_42 : decode cX8_dies 42 = .ok (.aload_n 0, 1) := by decide +kernel
theorem dX8_dies_43 : decode cX8_dies 43 = .ok (.aload_n 0, 1) := by decide +kernel
theorem dX8_dies_44 : decode cX8_dies 44 = .ok (.getfield 16, 3) := by decide +kernel
theorem dX8_dies_47 : decode cX8_dies 47 = .ok (.iload_n 3, 1) := by decide +kernel
theorem dX8_dies_48 : decode cX8_dies 48 = .ok (.invokevirtual 150, 3) := by decide +kernel
theorem dX8_dies_51 : decode cX8_dies 51 = .ok (.ifCond .eq 17, 3) := by decide +kernel
theorem dX8_dies_54 : decode cX8_dies 54 = .ok (.aload_n 0, 1) := by decide +kernel
theorem dX8_dies_55 : decode cX8_dies 55 = .ok (.aload_n 0, 1) := by decide +kernel
theorem dX8_dies_56 : decode cX8_dies 56 = .ok (.getfield 16, 3) := by decide +kernel
theorem dX8_dies_59 : decode cX8_dies 59 = .ok (.iload_n 1, 1) := by decide +kernel
theorem dX8_dies_60 : decode cX8_dies 60 = .ok (.iload_n 2, 1) := by decide +kernel
theorem dX8_dies_61 : decode cX8_dies 61 = .ok (.iload_n 3, 1) := by decide +kernel
theorem dX8_dies_62 : decode cX8_dies 62 = .ok (.invokevirtual 201, 3) := by decide +kernel
theorem dX8_dies_65 : decode cX8_dies 65 = .ok (.goto 5, 3) := by decide +kernel
theorem dX8_dies_68 : decode cX8_dies 68 = .ok (.bipush (-3), 2) := by decide +kernel
theorem dX8_dies_70 : decode cX8_dies 70 = .ok (.ireturn, 1) := by decide +kernel
theorem dX8_begin_0 : decode cX8_begin 0 = .ok (.iconst 0, 1) := by decide +kernel
theorem dX8_begin_1 : decode cX8_begin 1 = .ok (.istore_n 1, 1) := by decide +kernel
theorem dX8_begin_2 : decode cX8_begin 2 = .ok (.iload_n 1, 1) := by decide +kernel
theorem dX8_begin_3 : decode cX8_begin 3 = .ok (.bipush 37, 2) := by decide +kernel
theorem dX8_begin_5 : decode cX8_begin 5 = .ok (.if_icmp .ge 21, 3) := by decide +kernel
theorem dX8_begin_8 : decode cX8_begin 8 = .ok (.aload_n 0, 1) := by decide +kernel
theorem dX8_begin_9 : decode cX8_begin 9 = .ok (.getfield 19, 3) := by decide +kernel
theorem dX8_begin_12 : decode cX8_begin 12 = .ok (.iload_n 1, 1) := by decide +kernel
theorem dX8_begin_13 : decode cX8_begin 13 = .ok (.aload_n 0, 1) := by decide +kernel
theorem dX8_begin_14 : decode cX8_begin 14 = .ok (.getfield 16, 3) := by decide +kernel
theorem dX8_begin_17 : decode cX8_begin 17 = .ok (.iload_n 1, 1) := by decide +kernel
theorem dX8_begin_18 : decode cX8_begin 18 = .ok (.iaload, 1) := by decide +kernel
theorem dX8_begin_19 : decode cX8_begin 19 = .ok (.iastore, 1) := by decide +kernel
theorem dX8_begin_20 : decode cX8_begin 20 = .ok (.iinc 1 1, 3) := by decide +kernel
theorem dX8_begin_23 : decode cX8_begin 23 = .ok (.goto (-21), 3) := by decide +kernel
theorem dX8_begin_26 : decode cX8_begin 26 = .ok (.return_, 1) := by decide +kernel
theorem dX8_sixtiethsOf_0 : decode cX8_sixtiethsOf 0 = .ok (.aload_n 0, 1) := by decide +kernel
theorem dX8_sixtiethsOf_1 : decode cX8_sixtiethsOf 1 = .ok (.aload_n 1, 1) := by decide +kernel
theorem dX8_sixtiethsOf_2 : decode cX8_sixtiethsOf 2 = .ok (.iload_n 2, 1) := by decide +kernel
theorem dX8_sixtiethsOf_3 : decode cX8_sixtiethsOf 3 = .ok (.invokevirtual 143, 3) := by decide +kernel
theorem dX8_sixtiethsOf_6 : decode cX8_sixtiethsOf 6 = .ok (.aload_n 0, 1) := by decide +kernel
theorem dX8_sixtiethsOf_7 : decode cX8_sixtiethsOf 7 = .ok (.getfield 116, 3) := by decide +kernel
theorem dX8_sixtiethsOf_10 : decode cX8_sixtiethsOf 10 = .ok (.ifCond .ne 7, 3) := by decide +kernel
theorem dX8_sixtiethsOf_13 : decode cX8_sixtiethsOf 13 = .ok (.iconst (-1), 1) := by decide +kernel
theorem dX8_sixtiethsOf_14 : decode cX8_sixtiethsOf 14 = .ok (.goto 15, 3) := by decide +kernel
theorem dX8_sixtiethsOf_17 : decode cX8_sixtiethsOf 17 = .ok (.bipush 60, 2) := by decide +kernel
theorem dX8_sixtiethsOf_19 : decode cX8_sixtiethsOf 19 = .ok (.aload_n 0, 1) := by decide +kernel
theorem dX8_sixtiethsOf_20 : decode cX8_sixtiethsOf 20 = .ok (.getfield 116, 3) := by decide +kernel
theorem dX8_sixtiethsOf_23 : decode cX8_sixtiethsOf 23 = .ok (.idiv, 1) := by decide +kernel
theorem dX8_sixtiethsOf_24 : decode cX8_sixtiethsOf 24 = .ok (.aload_n 0, 1) := by decide +kernel
theorem dX8_sixtiethsOf_25 : decode cX8_sixtiethsOf 25 = .ok (.getfield 119, 3) := by decide +kernel
theorem dX8_sixtiethsOf_28 : decode cX8_sixtiethsOf 28 = .ok (.imul, 1) := by decide +kernel
theorem dX8_sixtiethsOf_29 : decode cX8_sixtiethsOf 29 = .ok (.ireturn, 1) := by decide +kernel
theorem dX8_best_0 : decode cX8_best 0 = .ok (.aload_n 0, 1) := by decide +kernel
theorem dX8_best_1 : decode cX8_best 1 = .ok (.iconst 0, 1) := by decide +kernel
theorem dX8_best_2 : decode cX8_best 2 = .ok (.putfield 59, 3) := by decide +kernel
theorem dX8_best_5 : decode cX8_best 5 = .ok (.iload_n 1, 1) := by decide +kernel
theorem dX8_best_6 : decode cX8_best 6 = .ok (.i2l, 1) := by decide +kernel
theorem dX8_best_7 : decode cX8_best 7 = .ok (.lconst 0, 1) := by decide +kernel
theorem dX8_best_8 : decode cX8_best 8 = .ok (.lconst 1, 1) := by decide +kernel
theorem dX8_best_9 : decode cX8_best 9 = .ok (.invokestatic 63, 3) := by decide +kernel
theorem dX8_best_12 : decode cX8_best 12 = .ok (.ifCond .ne 6, 3) := by decide +kernel
theorem dX8_best_15 : decode cX8_best 15 = .ok (.bipush (-2), 2) := by decide +kernel
theorem dX8_best_17 : decode cX8_best 17 = .ok (.ireturn, 1) := by decide +kernel
theorem dX8_best_18 : decode cX8_best 18 = .ok (.bipush (-9), 2) := by decide +kernel
theorem dX8_best_20 : decode cX8_best 20 = .ok (.istore_n 2, 1) := by decide +kernel
theorem dX8_best_21 : decode cX8_best 21 = .ok (.iconst 0, 1) := by decide +kernel
theorem dX8_best_22 : decode cX8_best 22 = .ok (.istore_n 3, 1) := by decide +kernel
theorem dX8_best_23 : decode cX8_best 23 = .ok (.iconst 0, 1) := by decide +kernel
theorem dX8_best_24 : decode cX8_best 24 = .ok (.istore 4, 2) := by decide +kernel
theorem dX8_best_26 : decode cX8_best 26 = .ok (.iload 4, 2) := by decide +kernel
theorem dX8_best_28 : decode cX8_best 28 = .ok (.bipush 36, 2) := by decide +kernel
theorem dX8_best_30 : decode cX8_best 30 = .ok (.if_icmp .ge 123, 3) := by decide +kernel
theorem dX8_best_33 : decode cX8_best 33 = .ok (.aload_n 0, 1) := by decide +kernel
theorem dX8_best_34 : decode cX8_best 34 = .ok (.getfield 16, 3) := by decide +kernel
theorem dX8_best_37 : decode cX8_best 37 = .ok (.iconst 1, 1) := by decide +kernel
theorem dX8_best_38 : decode cX8_best 38 = .ok (.iload 4, 2) := by decide +kernel
theorem dX8_best_40 : decode cX8_best 40 = .ok (.iadd, 1) := by decide +kernel
theorem dX8_best_41 : decode cX8_best 41 = .ok (.iaload, 1) := by decide +kernel
theorem dX8_best_42 : decode cX8_best 42 = .ok (.iconst 1, 1) := by decide +kernel
theorem dX8_best_43 : decode cX8_best 43 = .ok (.iload_n 1, 1) := by decide +kernel
theorem dX8_best_44 : decode cX8_best 44 = .ok (.isub, 1) := by decide +kernel
theorem dX8_best_45 : decode cX8_best 45 = .ok (.if_icmp .le 102, 3) := by decide +kernel
theorem dX8_best_48 : decode cX8_best 48 = .ok (.aload_n 0, 1) := by decide +kernel
theorem dX8_best_49 : decode cX8_best 49 = .ok (.invokevirtual 204, 3) := by decide +kernel
theorem dX8_best_52 : decode cX8_best 52 = .ok (.aload_n 0, 1) := by decide +kernel
theorem dX8_best_53 : decode cX8_best 53 = .ok (.getfield 19, 3) := by decide +kernel
theorem dX8_best_56 : decode cX8_best 56 = .ok (.iconst 1, 1) := by decide +kernel
theorem dX8_best_57 : decode cX8_best 57 = .ok (.iload 4, 2) := by decide +kernel
theorem dX8_best_59 : decode cX8_best 59 = .ok (.iadd, 1) := by decide +kernel
theorem dX8_best_60 : decode cX8_best 60 = .ok (.iload_n 1, 1) := by decide +kernel
theorem dX8_best_61 : decode cX8_best 61 = .ok (.ifCond .ne 17, 3) := by decide +kernel
theorem dX8_best_64 : decode cX8_best 64 = .ok (.aload_n 0, 1) := by decide +kernel
theorem dX8_best_65 : decode cX8_best 65 = .ok (.getfield 19, 3) := by decide +kernel
theorem dX8_best_68 : decode cX8_best 68 = .ok (.iconst 1, 1) := by decide +kernel
theorem dX8_best_69 : decode cX8_best 69 = .ok (.iload 4, 2) := by decide +kernel
theorem dX8_best_71 : decode cX8_best 71 = .ok (.iadd, 1) := by decide +kernel
theorem dX8_best_72 : decode cX8_best 72 = .ok (.iaload, 1) := by decide +kernel
theorem dX8_best_73 : decode cX8_best 73 = .ok (.iconst 1, 1) := by decide +kernel
theorem dX8_best_74 : decode cX8_best 74 = .ok (.isub, 1) := by decide +kernel
theorem dX8_best_75 : decode cX8_best 75 = .ok (.goto 4, 3) := by decide +kernel
theorem dX8_best_78 : decode cX8_best 78 = .ok (.iconst 0, 1) := by decide +kernel
theorem dX8_best_79 : decode cX8_best 79 = .ok (.iastore, 1) := by decide +kernel
theorem dX8_best_80 : decode cX8_best 80 = .ok (.aload_n 0, 1) := by decide +kernel
theorem dX8_best_81 : decode cX8_best 81 = .ok (.aload_n 0, 1) := by decide +kernel
theorem dX8_best_82 : decode cX8_best 82 = .ok (.getfield 19, 3) := by decide +kernel
theorem dX8_best_85 : decode cX8_best 85 = .ok (.bipush 63, 2) := by decide +kernel
theorem dX8_best_87 : decode cX8_best 87 = .ok (.invokevirtual 207, 3) := by decide +kernel
theorem dX8_best_90 : decode cX8_best 90 = .ok (.istore 5, 2) := by decide +kernel
theorem dX8_best_92 : decode cX8_best 92 = .ok (.iload_n 2, 1) := by decide +kernel
theorem dX8_best_93 : decode cX8_best 93 = .ok (.bipush (-9), 2) := by decide +kernel
theorem dX8_best_95 : decode cX8_best 95 = .ok (.if_icmp .eq 9, 3) := by decide +kernel
theorem dX8_best_98 : decode cX8_best 98 = .ok (.iload 5, 2) := by decide +kernel
theorem dX8_best_100 : decode cX8_best 100 = .ok (.iload_n 3, 1) := by decide +kernel
theorem dX8_best_101 : decode cX8_best 101 = .ok (.if_icmp .ge 7, 3) := by decide +kernel
theorem dX8_best_104 : decode cX8_best 104 = .ok (.iconst 1, 1) := by decide +kernel
theorem dX8_best_105 : decode cX8_best 105 = .ok (.goto 4, 3) := by decide +kernel
theorem dX8_best_108 : decode cX8_best 108 = .ok (.iconst 0, 1) := by decide +kernel
theorem dX8_best_109 : decode cX8_best 109 = .ok (.istore 6, 2) := by decide +kernel
theorem dX8_best_111 : decode cX8_best 111 = .ok (.iload 6, 2) := by decide +kernel
theorem dX8_best_113 : decode cX8_best 113 = .ok (.ifCond .eq 20, 3) := by decide +kernel
theorem dX8_best_116 : decode cX8_best 116 = .ok (.bipush 10, 2) := by decide +kernel
theorem dX8_best_118 : decode cX8_best 118 = .ok (.iload 4, 2) := by decide +kernel
theorem dX8_best_120 : decode cX8_best 120 = .ok (.bipush 6, 2) := by decide +kernel
theorem dX8_best_122 : decode cX8_best 122 = .ok (.idiv, 1) := by decide +kernel
theorem dX8_best_123 : decode cX8_best 123 = .ok (.imul, 1) := by decide +kernel
theorem dX8_best_124 : decode cX8_best 124 = .ok (.iload 4, 2) := by decide +kernel
theorem dX8_best_126 : decode cX8_best 126 = .ok (.bipush 6, 2) := by decide +kernel
theorem dX8_best_128 : decode cX8_best 128 = .ok (.irem, 1) := by decide +kernel
theorem dX8_best_129 : decode cX8_best 129 = .ok (.iadd, 1) := by decide +kernel
theorem dX8_best_130 : decode cX8_best 130 = .ok (.goto 4, 3) := by decide +kernel
theorem dX8_best_133 : decode cX8_best 133 = .ok (.iload_n 2, 1) := by decide +kernel
theorem dX8_best_134 : decode cX8_best 134 = .ok (.istore_n 2, 1) := by decide +kernel
theorem dX8_best_135 : decode cX8_best 135 = .ok (.iload 6, 2) := by decide +kernel
theorem dX8_best_137 : decode cX8_best 137 = .ok (.ifCond .eq 8, 3) := by decide +kernel
theorem dX8_best_140 : decode cX8_best 140 = .ok (.iload 5, 2) := by decide +kernel
theorem dX8_best_142 : decode cX8_best 142 = .ok (.goto 4, 3) := by decide +kernel
theorem dX8_best_145 : decode cX8_best 145 = .ok (.iload_n 3, 1) := by decide +kernel
theorem dX8_best_146 : decode cX8_best 146 = .ok (.istore_n 3, 1) := by decide +kernel
theorem dX8_best_147 : decode cX8_best 147 = .ok (.iinc 4 1, 3) := by decide +kernel
theorem dX8_best_150 : decode cX8_best 150 = .ok (.goto (-124), 3) := by decide +kernel
theorem dX8_best_153 : decode cX8_best 153 = .ok (.iload_n 2, 1) := by decide +kernel
theorem dX8_best_154 : decode cX8_best 154 = .ok (.ireturn, 1) := by decide +kernel
theorem dX8_longPower_0 : decode cX8_longPower 0 = .ok (.lconst 1, 1) := by decide +kernel
theorem dX8_longPower_1 : decode cX8_longPower 1 = .ok (.lstore_n 3, 1) := by decide +kernel
theorem dX8_longPower_2 : decode cX8_longPower 2 = .ok (.iconst 0, 1) := by decide +kernel
theorem dX8_longPower_3 : decode cX8_longPower 3 = .ok (.istore 5, 2) := by decide +kernel
theorem dX8_longPower_5 : decode cX8_longPower 5 = .ok (.iload 5, 2) := by decide +kernel
theorem dX8_longPower_7 : decode cX8_longPower 7 = .ok (.iload_n 2, 1) := by decide +kernel
theorem dX8_longPower_8 : decode cX8_longPower 8 = .ok (.if_icmp .ge 13, 3) := by decide +kernel
theorem dX8_longPower_11 : decode cX8_longPower 11 = .ok (.lload_n 3, 1) := by decide +kernel
theorem dX8_longPower_12 : decode cX8_longPower 12 = .ok (.lload_n 0, 1) := by decide +kernel
theorem dX8_longPower_13 : decode cX8_longPower 13 = .ok (.lmul, 1) := by decide +kernel
theorem dX8_longPower_14 : decode cX8_longPower 14 = .ok (.lstore_n 3, 1) := by decide +kernel
theorem dX8_longPower_15 : decode cX8_longPower 15 = .ok (.iinc 5 1, 3) := by decide +kernel
theorem dX8_longPower_18 : decode cX8_longPower 18 = .ok (.goto (-13), 3) := by decide +kernel
theorem dX8_longPower_21 : decode cX8_longPower 21 = .ok (.lload_n 3, 1) := by decide +kernel
theorem dX8_longPower_22 : decode cX8_longPower 22 = .ok (.lreturn, 1) := by decide +kernel
theorem dX8_sets_0 : decode cX8_sets 0 = .ok (.iload_n 1, 1) := by decide +kernel
theorem dX8_sets_1 : decode cX8_sets 1 = .ok (.aload_n 0, 1) := by decide +kernel
theorem dX8_sets_2 : decode cX8_sets 2 = .ok (.getfield 19, 3) := by decide +kernel
theorem dX8_sets_5 : decode cX8_sets 5 = .ok (.iconst 0, 1) := by decide +kernel
theorem dX8_sets_6 : decode cX8_sets 6 = .ok (.iaload, 1) := by decide +kernel
theorem dX8_sets_7 : decode cX8_sets 7 = .ok (.if_icmp .ge 30, 3) := by decide +kernel
theorem dX8_sets_10 : decode cX8_sets 10 = .ok (.iload_n 2, 1) := by decide +kernel
theorem dX8_sets_11 : decode cX8_sets 11 = .ok (.aload_n 0, 1) := by decide +kernel
theorem dX8_sets_12 : decode cX8_sets 12 = .ok (.getfield 19, 3) := by decide +kernel
theorem dX8_sets_15 : decode cX8_sets 15 = .ok (.iconst 0, 1) := by decide +kernel
theorem dX8_sets_16 : decode cX8_sets 16 = .ok (.iaload, 1) := by decide +kernel
theorem dX8_sets_17 : decode cX8_sets 17 = .ok (.if_icmp .ge 20, 3) := by decide +kernel
theorem dX8_sets_20 : decode cX8_sets 20 = .ok (.aload_n 0, 1) := by decide +kernel
theorem dX8_sets_21 : decode cX8_sets 21 = .ok (.getfield 19, 3) := by decide +kernel
theorem dX8_sets_24 : decode cX8_sets 24 = .ok (.iload_n 1, 1) := by decide +kernel
theorem dX8_sets_25 : decode cX8_sets 25 = .ok (.iload_n 2, 1) := by decide +kernel
theorem dX8_sets_26 : decode cX8_sets 26 = .ok (.invokestatic 79, 3) := by decide +kernel
theorem dX8_sets_29 : decode cX8_sets 29 = .ok (.iload_n 3, 1) := by decide +kernel
theorem dX8_sets_30 : decode cX8_sets 30 = .ok (.if_icmp .ne 7, 3) := by decide +kernel
theorem dX8_sets_33 : decode cX8_sets 33 = .ok (.iconst 1, 1) := by decide +kernel
theorem dX8_sets_34 : decode cX8_sets 34 = .ok (.goto 4, 3) := by decide +kernel
theorem dX8_sets_37 : decode cX8_sets 37 = .ok (.iconst 0, 1) := by decide +kernel
theorem dX8_sets_38 : decode cX8_sets 38 = .ok (.istore 5, 2) := by decide +kernel
theorem dX8_sets_40 : decode cX8_sets 40 = .ok (.iload 5, 2) := by decide +kernel
theorem dX8_sets_42 : decode cX8_sets 42 = .ok (.ifCond .eq 18, 3) := by decide +kernel
theorem dX8_sets_45 : decode cX8_sets 45 = .ok (.aload_n 0, 1) := by decide +kernel
theorem dX8_sets_46 : decode cX8_sets 46 = .ok (.getfield 19, 3) := by decide +kernel
theorem dX8_sets_49 : decode cX8_sets 49 = .ok (.iconst 1, 1) := by decide +kernel
theorem dX8_sets_50 : decode cX8_sets 50 = .ok (.bipush 6, 2) := by decide +kernel
theorem dX8_sets_52 : decode cX8_sets 52 = .ok (.iload_n 1, 1) := by decide +kernel
theorem dX8_sets_53 : decode cX8_sets 53 = .ok (.imul, 1) := by decide +kernel
theorem dX8_sets_54 : decode cX8_sets 54 = .ok (.iadd, 1) := by decide +kernel
theorem dX8_sets_55 : decode cX8_sets 55 = .ok (.iload_n 2, 1) := by decide +kernel
theorem dX8_sets_56 : decode cX8_sets 56 = .ok (.iadd, 1) := by decide +kernel
theorem dX8_sets_57 : decode cX8_sets 57 = .ok (.iload 4, 2) := by decide +kernel
theorem dX8_sets_59 : decode cX8_sets 59 = .ok (.iastore, 1) := by decide +kernel
theorem dX8_sets_60 : decode cX8_sets 60 = .ok (.iload 5, 2) := by decide +kernel
theorem dX8_sets_62 : decode cX8_sets 62 = .ok (.ireturn, 1) := by decide +kernel
theorem dX8_isCritical_0 : decode cX8_isCritical 0 = .ok (.aload_n 0, 1) := by decide +kernel
theorem dX8_isCritical_1 : decode cX8_isCritical 1 = .ok (.aload_n 0, 1) := by decide +kernel
theorem dX8_isCritical_2 : decode cX8_isCritical 2 = .ok (.getfield 19, 3) := by decide +kernel
theorem dX8_isCritical_5 : decode cX8_isCritical 5 = .ok (.invokevirtual 146, 3) := by decide +kernel
theorem dX8_isCritical_8 : decode cX8_isCritical 8 = .ok (.iload_n 1, 1) := by decide +kernel
theorem dX8_isCritical_9 : decode cX8_isCritical 9 = .ok (.aload_n 0, 1) := by decide +kernel
theorem dX8_isCritical_10 : decode cX8_isCritical 10 = .ok (.getfield 19, 3) := by decide +kernel
theorem dX8_isCritical_13 : decode cX8_isCritical 13 = .ok (.iconst 0, 1) := by decide +kernel
theorem dX8_isCritical_14 : decode cX8_isCritical 14 = .ok (.iaload, 1) := by decide +kernel
theorem dX8_isCritical_15 : decode cX8_isCritical 15 = .ok (.if_icmp .ge 35, 3) := by decide +kernel
theorem dX8_isCritical_18 : decode cX8_isCritical 18 = .ok (.iload_n 2, 1) := by decide +kernel
theorem dX8_isCritical_19 : decode cX8_isCritical 19 = .ok (.aload_n 0, 1) := by decide +kernel
theorem dX8_isCritical_20 : decode cX8_isCritical 20 = .ok (.getfield 19, 3) := by decide +kernel
theorem dX8_isCritical_23 : decode cX8_isCritical 23 = .ok (.iconst 0, 1) := by decide +kernel
theorem dX8_isCritical_24 : decode cX8_isCritical 24 = .ok (.iaload, 1) := by decide +kernel
theorem dX8_isCritical_25 : decode cX8_isCritical 25 = .ok (.if_icmp .ge 25, 3) := by decide +kernel
theorem dX8_isCritical_28 : decode cX8_isCritical 28 = .ok (.aload_n 0, 1) := by decide +kernel
theorem dX8_isCritical_29 : decode cX8_isCritical 29 = .ok (.getfield 122, 3) := by decide +kernel
theorem dX8_isCritical_32 : decode cX8_isCritical 32 = .ok (.bipush 6, 2) := by decide +kernel
theorem dX8_isCritical_34 : decode cX8_isCritical 34 = .ok (.iload_n 1, 1) := by decide +kernel
theorem dX8_isCritical_35 : decode cX8_isCritical 35 = .ok (.imul, 1) := by decide +kernel
theorem dX8_isCritical_36 : decode cX8_isCritical 36 = .ok (.iload_n 2, 1) := by decide +kernel
theorem dX8_isCritical_37 : decode cX8_isCritical 37 = .ok (.iadd, 1) := by decide +kernel
theorem dX8_isCritical_38 : decode cX8_isCritical 38 = .ok (.lshr, 1) := by decide +kernel
theorem dX8_isCritical_39 : decode cX8_isCritical 39 = .ok (.lconst 1, 1) := by decide +kernel
theorem dX8_isCritical_40 : decode cX8_isCritical 40 = .ok (.land, 1) := by decide +kernel
theorem dX8_isCritical_41 : decode cX8_isCritical 41 = .ok (.lconst 1, 1) := by decide +kernel
theorem dX8_isCritical_42 : decode cX8_isCritical 42 = .ok (.lcmp, 1) := by decide +kernel
theorem dX8_isCritical_43 : decode cX8_isCritical 43 = .ok (.ifCond .ne 7, 3) := by decide +kernel
theorem dX8_isCritical_46 : decode cX8_isCritical 46 = .ok (.iconst 1, 1) := by decide +kernel
theorem dX8_isCritical_47 : decode cX8_isCritical 47 = .ok (.goto 4, 3) := by decide +kernel
theorem dX8_isCritical_50 : decode cX8_isCritical 50 = .ok (.iconst 0, 1) := by decide +kernel
theorem dX8_isCritical_51 : decode cX8_isCritical 51 = .ok (.ireturn, 1) := by decide +kernel
theorem dX8_isTime_0 : decode cX8_isTime 0 = .ok (.aload_n 0, 1) := by decide +kernel
theorem dX8_isTime_1 : decode cX8_isTime 1 = .ok (.aload_n 0, 1) := by decide +kernel
theorem dX8_isTime_2 : decode cX8_isTime 2 = .ok (.getfield 19, 3) := by decide +kernel
theorem dX8_isTime_5 : decode cX8_isTime 5 = .ok (.bipush 10, 2) := by decide +kernel
theorem dX8_isTime_7 : decode cX8_isTime 7 = .ok (.invokevirtual 183, 3) := by decide +kernel
theorem dX8_isTime_10 : decode cX8_isTime 10 = .ok (.iload_n 1, 1) := by decide +kernel
theorem dX8_isTime_11 : decode cX8_isTime 11 = .ok (.aload_n 0, 1) := by decide +kernel
theorem dX8_isTime_12 : decode cX8_isTime 12 = .ok (.getfield 19, 3) := by decide +kernel
theorem dX8_isTime_15 : decode cX8_isTime 15 = .ok (.iconst 0, 1) := by decide +kernel
theorem dX8_isTime_16 : decode cX8_isTime 16 = .ok (.iaload, 1) := by decide +kernel
theorem dX8_isTime_17 : decode cX8_isTime 17 = .ok (.if_icmp .ge 17, 3) := by decide +kernel
theorem dX8_isTime_20 : decode cX8_isTime 20 = .ok (.aload_n 0, 1) := by decide +kernel
theorem dX8_isTime_21 : decode cX8_isTime 21 = .ok (.getfield 47, 3) := by decide +kernel
theorem dX8_isTime_24 : decode cX8_isTime 24 = .ok (.iload_n 1, 1) := by decide +kernel
theorem dX8_isTime_25 : decode cX8_isTime 25 = .ok (.iaload, 1) := by decide +kernel
theorem dX8_isTime_26 : decode cX8_isTime 26 = .ok (.iload_n 2, 1) := by decide +kernel
theorem dX8_isTime_27 : decode cX8_isTime 27 = .ok (.if_icmp .ne 7, 3) := by decide +kernel
theorem dX8_isTime_30 : decode cX8_isTime 30 = .ok (.iconst 1, 1) := by decide +kernel
theorem dX8_isTime_31 : decode cX8_isTime 31 = .ok (.goto 4, 3) := by decide +kernel
theorem dX8_isTime_34 : decode cX8_isTime 34 = .ok (.iconst 0, 1) := by decide +kernel
theorem dX8_isTime_35 : decode cX8_isTime 35 = .ok (.ireturn, 1) := by decide +kernel
theorem dX8_does_0 : decode cX8_does 0 = .ok (.iload_n 1, 1) := by decide +kernel
theorem dX8_does_1 : decode cX8_does 1 = .ok (.bipush 100, 2) := by decide +kernel
theorem dX8_does_3 : decode cX8_does 3 = .ok (.idiv, 1) := by decide +kernel
theorem dX8_does_4 : decode cX8_does 4 = .ok (.bipush 10, 2) := by decide +kernel
theorem dX8_does_6 : decode cX8_does 6 = .ok (.irem, 1) := by decide +kernel
theorem dX8_does_7 : decode cX8_does 7 = .ok (.istore_n 2, 1) := by decide +kernel
theorem dX8_does_8 : decode cX8_does 8 = .ok (.iload_n 1, 1) := by decide +kernel
theorem dX8_does_9 : decode cX8_does 9 = .ok (.bipush 10, 2) := by decide +kernel
theorem dX8_does_11 : decode cX8_does 11 = .ok (.idiv, 1) := by decide +kernel
theorem dX8_does_12 : decode cX8_does 12 = .ok (.bipush 10, 2) := by decide +kernel
theorem dX8_does_14 : decode cX8_does 14 = .ok (.irem, 1) := by decide +kernel
theorem dX8_does_15 : decode cX8_does 15 = .ok (.istore_n 3, 1) := by decide +kernel
theorem dX8_does_16 : decode cX8_does 16 = .ok (.iload_n 1, 1) := by decide +kernel
theorem dX8_does_17 : decode cX8_does 17 = .ok (.bipush 10, 2) := by decide +kernel
theorem dX8_does_19 : decode cX8_does 19 = .ok (.irem, 1) := by decide +kernel
theorem dX8_does_20 : decode cX8_does 20 = .ok (.istore 4, 2) := by decide +kernel
theorem dX8_does_22 : decode cX8_does 22 = .ok (.iload_n 1, 1) := by decide +kernel
theorem dX8_does_23 : decode cX8_does 23 = .ok (.bipush 100, 2) := by decide +kernel
theorem dX8_does_25 : decode cX8_does 25 = .ok (.irem, 1) := by decide +kernel
theorem dX8_does_26 : decode cX8_does 26 = .ok (.istore 5, 2) := by decide +kernel
theorem dX8_does_28 : decode cX8_does 28 = .ok (.iload_n 1, 1) := by decide +kernel
theorem dX8_does_29 : decode cX8_does 29 = .ok (.sipush 1000, 3) := by decide +kernel
theorem dX8_does_32 : decode cX8_does 32 = .ok (.idiv, 1) := by decide +kernel
theorem dX8_does_33 : decode cX8_does 33 = .ok (.tableswitch 194 1 7 #[43, 55, 77, 89, 119, 139, 147], 43) := by decide +kernel
theorem dX8_does_76 : decode cX8_does 76 = .ok (.aload_n 0, 1) := by decide +kernel
theorem dX8_does_77 : decode cX8_does 77 = .ok (.iload_n 2, 1) := by decide +kernel
theorem dX8_does_78 : decode cX8_does 78 = .ok (.iload_n 3, 1) := by decide +kernel
theorem dX8_does_79 : decode cX8_does 79 = .ok (.iconst 0, 1) := by decide +kernel
theorem dX8_does_80 : decode cX8_does 80 = .ok (.iload 4, 2) := by decide +kernel
theorem dX8_does_82 : decode cX8_does 82 = .ok (.iconst 1, 1) := by decide +kernel
theorem dX8_does_83 : decode cX8_does 83 = .ok (.iadd, 1) := by decide +kernel
theorem dX8_does_84 : decode cX8_does 84 = .ok (.invokevirtual 210, 3) := by decide +kernel
theorem dX8_does_87 : decode cX8_does 87 = .ok (.ireturn, 1) := by decide +kernel
theorem dX8_does_88 : decode cX8_does 88 = .ok (.iload 4, 2) := by decide +kernel
theorem dX8_does_90 : decode cX8_does 90 = .ok (.ifCond .ne 18, 3) := by decide +kernel
theorem dX8_does_93 : decode cX8_does 93 = .ok (.aload_n 0, 1) := by decide +kernel
theorem dX8_does_94 : decode cX8_does 94 = .ok (.iload_n 2, 1) := by decide +kernel
theorem dX8_does_95 : decode cX8_does 95 = .ok (.iload_n 3, 1) := by decide +kernel
theorem dX8_does_96 : decode cX8_does 96 = .ok (.iconst 1, 1) := by decide +kernel
theorem dX8_does_97 : decode cX8_does 97 = .ok (.iconst 0, 1) := by decide +kernel
theorem dX8_does_98 : decode cX8_does 98 = .ok (.invokevirtual 210, 3) := by decide +kernel
theorem dX8_does_101 : decode cX8_does 101 = .ok (.ifCond .eq 7, 3) := by decide +kernel
theorem dX8_does_104 : decode cX8_does 104 = .ok (.iconst 1, 1) := by decide +kernel
theorem dX8_does_105 : decode cX8_does 105 = .ok (.goto 4, 3) := by decide +kernel
theorem dX8_does_108 : decode cX8_does 108 = .ok (.iconst 0, 1) := by decide +kernel
theorem dX8_does_109 : decode cX8_does 109 = .ok (.ireturn, 1) := by decide +kernel
theorem dX8_does_110 : decode cX8_does 110 = .ok (.aload_n 0, 1) := by decide +kernel
theorem dX8_does_111 : decode cX8_does 111 = .ok (.iload_n 2, 1) := by decide +kernel
theorem dX8_does_112 : decode cX8_does 112 = .ok (.iload_n 3, 1) := by decide +kernel
theorem dX8_does_113 : decode cX8_does 113 = .ok (.iconst 1, 1) := by decide +kernel
theorem dX8_does_114 : decode cX8_does 114 = .ok (.iload 4, 2) := by decide +kernel
theorem dX8_does_116 : decode cX8_does 116 = .ok (.iconst 1, 1) := by decide +kernel
theorem dX8_does_117 : decode cX8_does 117 = .ok (.iadd, 1) := by decide +kernel
theorem dX8_does_118 : decode cX8_does 118 = .ok (.invokevirtual 210, 3) := by decide +kernel
theorem dX8_does_121 : decode cX8_does 121 = .ok (.ireturn, 1) := by decide +kernel
theorem dX8_does_122 : decode cX8_does 122 = .ok (.iload_n 2, 1) := by decide +kernel
theorem dX8_does_123 : decode cX8_does 123 = .ok (.ifCond .ne 27, 3) := by decide +kernel
theorem dX8_does_126 : decode cX8_does 126 = .ok (.iload 5, 2) := by decide +kernel
theorem dX8_does_128 : decode cX8_does 128 = .ok (.bipush 20, 2) := by decide +kernel
theorem dX8_does_130 : decode cX8_does 130 = .ok (.if_icmp .gt 20, 3) := by decide +kernel
theorem dX8_does_133 : decode cX8_does 133 = .ok (.aload_n 0, 1) := by decide +kernel
theorem dX8_does_134 : decode cX8_does 134 = .ok (.aload_n 0, 1) := by decide +kernel
theorem dX8_does_135 : decode cX8_does 135 = .ok (.getfield 19, 3) := by decide +kernel
theorem dX8_does_138 : decode cX8_does 138 = .ok (.iload 5, 2) := by decide +kernel
theorem dX8_does_140 : decode cX8_does 140 = .ok (.invokevirtual 150, 3) := by decide +kernel
theorem dX8_does_143 : decode cX8_does 143 = .ok (.ifCond .eq 7, 3) := by decide +kernel
theorem dX8_does_146 : decode cX8_does 146 = .ok (.iconst 1, 1) := by decide +kernel
theorem dX8_does_147 : decode cX8_does 147 = .ok (.goto 4, 3) := by decide +kernel
theorem dX8_does_150 : decode cX8_does 150 = .ok (.iconst 0, 1) := by decide +kernel
theorem dX8_does_151 : decode cX8_does 151 = .ok (.ireturn, 1) := by decide +kernel
theorem dX8_does_152 : decode cX8_does 152 = .ok (.iload 4, 2) := by decide +kernel
theorem dX8_does_154 : decode cX8_does 154 = .ok (.ifCond .ne 16, 3) := by decide +kernel
theorem dX8_does_157 : decode cX8_does 157 = .ok (.aload_n 0, 1) := by decide +kernel
theorem dX8_does_158 : decode cX8_does 158 = .ok (.iload_n 2, 1) := by decide +kernel
theorem dX8_does_159 : decode cX8_does 159 = .ok (.iload_n 3, 1) := by decide +kernel
theorem dX8_does_160 : decode cX8_does 160 = .ok (.invokevirtual 214, 3) := by decide +kernel
theorem dX8_does_163 : decode cX8_does 163 = .ok (.ifCond .eq 7, 3) := by decide +kernel
theorem dX8_does_166 : decode cX8_does 166 = .ok (.iconst 1, 1) := by decide +kernel
theorem dX8_does_167 : decode cX8_does 167 = .ok (.goto 4, 3) := by decide +kernel
theorem dX8_does_170 : decode cX8_does 170 = .ok (.iconst 0, 1) := by decide +kernel
theorem dX8_does_171 : decode cX8_does 171 = .ok (.ireturn, 1) := by decide +kernel
theorem dX8_does_172 : decode cX8_does 172 = .ok (.aload_n 0, 1) := by decide +kernel
theorem dX8_does_173 : decode cX8_does 173 = .ok (.iload_n 2, 1) := by decide +kernel
theorem dX8_does_174 : decode cX8_does 174 = .ok (.iload 5, 2) := by decide +kernel
theorem dX8_does_176 : decode cX8_does 176 = .ok (.invokevirtual 217, 3) := by decide +kernel
theorem dX8_does_179 : decode cX8_does 179 = .ok (.ireturn, 1) := by decide +kernel
theorem dX8_does_180 : decode cX8_does 180 = .ok (.iload_n 2, 1) := by decide +kernel
theorem dX8_does_181 : decode cX8_does 181 = .ok (.aload_n 0, 1) := by decide +kernel
theorem dX8_does_182 : decode cX8_does 182 = .ok (.getfield 19, 3) := by decide +kernel
theorem dX8_does_185 : decode cX8_does 185 = .ok (.iconst 0, 1) := by decide +kernel
theorem dX8_does_186 : decode cX8_does 186 = .ok (.iaload, 1) := by decide +kernel
theorem dX8_does_187 : decode cX8_does 187 = .ok (.if_icmp .ge 38, 3) := by decide +kernel
theorem dX8_does_190 : decode cX8_does 190 = .ok (.iload 5, 2) := by decide +kernel
theorem dX8_does_192 : decode cX8_does 192 = .ok (.i2l, 1) := by decide +kernel
theorem dX8_does_193 : decode cX8_does 193 = .ok (.lconst 1, 1) := by decide +kernel
theorem dX8_does_194 : decode cX8_does 194 = .ok (.ldc2_w 190, 3) := by decide +kernel
theorem dX8_does_197 : decode cX8_does 197 = .ok (.invokestatic 63, 3) := by decide +kernel
theorem dX8_does_200 : decode cX8_does 200 = .ok (.ifCond .eq 25, 3) := by decide +kernel
theorem dX8_does_203 : decode cX8_does 203 = .ok (.aload_n 0, 1) := by decide +kernel
theorem dX8_does_204 : decode cX8_does 204 = .ok (.aload_n 0, 1) := by decide +kernel
theorem dX8_does_205 : decode cX8_does 205 = .ok (.getfield 19, 3) := by decide +kernel
theorem dX8_does_208 : decode cX8_does 208 = .ok (.iload_n 2, 1) := by decide +kernel
theorem dX8_does_209 : decode cX8_does 209 = .ok (.iload 5, 2) := by decide +kernel
theorem dX8_does_211 : decode cX8_does 211 = .ok (.bipush 10, 2) := by decide +kernel
theorem dX8_does_213 : decode cX8_does 213 = .ok (.invokevirtual 201, 3) := by decide +kernel
theorem dX8_does_216 : decode cX8_does 216 = .ok (.bipush (-9), 2) := by decide +kernel
theorem dX8_does_218 : decode cX8_does 218 = .ok (.if_icmp .eq 7, 3) := by decide +kernel
theorem dX8_does_221 : decode cX8_does 221 = .ok (.iconst 1, 1) := by decide +kernel
theorem dX8_does_222 : decode cX8_does 222 = .ok (.goto 4, 3) := by decide +kernel
theorem dX8_does_225 : decode cX8_does 225 = .ok (.iconst 0, 1) := by decide +kernel
theorem dX8_does_226 : decode cX8_does 226 = .ok (.ireturn, 1) := by decide +kernel
theorem dX8_does_227 : decode cX8_does 227 = .ok (.iconst 0, 1) := by decide +kernel
theorem dX8_does_228 : decode cX8_does 228 = .ok (.ireturn, 1) := by decide +kernel
theorem dX8_judge_0 : decode cX8_judge 0 = .ok (.aload_n 0, 1) := by decide +kernel
theorem dX8_judge_1 : decode cX8_judge 1 = .ok (.iconst 0, 1) := by decide +kernel
theorem dX8_judge_2 : decode cX8_judge 2 = .ok (.putfield 59, 3) := by decide +kernel
theorem dX8_judge_5 : decode cX8_judge 5 = .ok (.iload_n 1, 1) := by decide +kernel
theorem dX8_judge_6 : decode cX8_judge 6 = .ok (.i2l, 1) := by decide +kernel
theorem dX8_judge_7 : decode cX8_judge 7 = .ok (.lconst 1, 1) := by decide +kernel
theorem dX8_judge_8 : decode cX8_judge 8 = .ok (.ldc2_w 220, 3) := by decide +kernel
theorem dX8_judge_11 : decode cX8_judge 11 = .ok (.invokestatic 63, 3) := by decide +kernel
theorem dX8_judge_14 : decode cX8_judge 14 = .ok (.ifCond .eq 20, 3) := by decide +kernel
theorem dX8_judge_17 : decode cX8_judge 17 = .ok (.lload_n 2, 1) := by decide +kernel
theorem dX8_judge_18 : decode cX8_judge 18 = .ok (.lconst 0, 1) := by decide +kernel
theorem dX8_judge_19 : decode cX8_judge 19 = .ok (.ldc2_w 222, 3) := by decide +kernel
theorem dX8_judge_22 : decode cX8_judge 22 = .ok (.iload_n 1, 1) := by decide +kernel
theorem dX8_judge_23 : decode cX8_judge 23 = .ok (.invokestatic 224, 3) := by decide +kernel
theorem dX8_judge_26 : decode cX8_judge 26 = .ok (.lconst 1, 1) := by decide +kernel
theorem dX8_judge_27 : decode cX8_judge 27 = .ok (.lsub, 1) := by decide +kernel
theorem dX8_judge_28 : decode cX8_judge 28 = .ok (.invokestatic 63, 3) := by decide +kernel
theorem dX8_judge_31 : decode cX8_judge 31 = .ok (.ifCond .ne 6, 3) := by decide +kernel
theorem dX8_judge_34 : decode cX8_judge 34 = .ok (.bipush (-2), 2) := by decide +kernel
theorem dX8_judge_36 : decode cX8_judge 36 = .ok (.ireturn, 1) := by decide +kernel
theorem dX8_judge_37 : decode cX8_judge 37 = .ok (.aload_n 0, 1) := by decide +kernel
theorem dX8_judge_38 : decode cX8_judge 38 = .ok (.invokevirtual 204, 3) := by decide +kernel
theorem dX8_judge_41 : decode cX8_judge 41 = .ok (.iconst 0, 1) := by decide +kernel
theorem dX8_judge_42 : decode cX8_judge 42 = .ok (.istore 4, 2) := by decide +kernel
theorem dX8_judge_44 : decode cX8_judge 44 = .ok (.iload 4, 2) := by decide +kernel
theorem dX8_judge_46 : decode cX8_judge 46 = .ok (.iload_n 1, 1) := by decide +kernel
theorem dX8_judge_47 : decode cX8_judge 47 = .ok (.if_icmp .ge 38, 3) := by decide +kernel
theorem dX8_judge_50 : decode cX8_judge 50 = .ok (.aload_n 0, 1) := by decide +kernel
theorem dX8_judge_51 : decode cX8_judge 51 = .ok (.lload_n 2, 1) := by decide +kernel
theorem dX8_judge_52 : decode cX8_judge 52 = .ok (.ldc2_w 222, 3) := by decide +kernel
theorem dX8_judge_55 : decode cX8_judge 55 = .ok (.iload_n 1, 1) := by decide +kernel
theorem dX8_judge_56 : decode cX8_judge 56 = .ok (.iconst 1, 1) := by decide +kernel
theorem dX8_judge_57 : decode cX8_judge 57 = .ok (.isub, 1) := by decide +kernel
theorem dX8_judge_58 : decode cX8_judge 58 = .ok (.iload 4, 2) := by decide +kernel
theorem dX8_judge_60 : decode cX8_judge 60 = .ok (.isub, 1) := by decide +kernel
theorem dX8_judge_61 : decode cX8_judge 61 = .ok (.invokestatic 224, 3) := by decide +kernel
theorem dX8_judge_64 : decode cX8_judge 64 = .ok (.ldiv, 1) := by decide +kernel
theorem dX8_judge_65 : decode cX8_judge 65 = .ok (.ldc2_w 222, 3) := by decide +kernel
theorem dX8_judge_68 : decode cX8_judge 68 = .ok (.lrem, 1) := by decide +kernel
theorem dX8_judge_69 : decode cX8_judge 69 = .ok (.l2i, 1) := by decide +kernel
theorem dX8_judge_70 : decode cX8_judge 70 = .ok (.invokevirtual 228, 3) := by decide +kernel
theorem dX8_judge_73 : decode cX8_judge 73 = .ok (.ifCond .ne 6, 3) := by decide +kernel
theorem dX8_judge_76 : decode cX8_judge 76 = .ok (.iload 4, 2) := by decide +kernel
theorem dX8_judge_78 : decode cX8_judge 78 = .ok (.ireturn, 1) := by decide +kernel
theorem dX8_judge_79 : decode cX8_judge 79 = .ok (.iinc 4 1, 3) := by decide +kernel
theorem dX8_judge_82 : decode cX8_judge 82 = .ok (.goto (-38), 3) := by decide +kernel
theorem dX8_judge_85 : decode cX8_judge 85 = .ok (.bipush (-9), 2) := by decide +kernel
theorem dX8_judge_87 : decode cX8_judge 87 = .ok (.ireturn, 1) := by decide +kernel
theorem dX8_orders_0 : decode cX8_orders 0 = .ok (.iconst 1, 1) := by decide +kernel
theorem dX8_orders_1 : decode cX8_orders 1 = .ok (.istore_n 2, 1) := by decide +kernel
theorem dX8_orders_2 : decode cX8_orders 2 = .ok (.iconst 2, 1) := by decide +kernel
theorem dX8_orders_3 : decode cX8_orders 3 = .ok (.istore_n 3, 1) := by decide +kernel
theorem dX8_orders_4 : decode cX8_orders 4 = .ok (.iload_n 3, 1) := by decide +kernel
theorem dX8_orders_5 : decode cX8_orders 5 = .ok (.iload_n 1, 1) := by decide +kernel
theorem dX8_orders_6 : decode cX8_orders 6 = .ok (.if_icmp .gt 13, 3) := by decide +kernel
theorem dX8_orders_9 : decode cX8_orders 9 = .ok (.iload_n 2, 1) := by decide +kernel
theorem dX8_orders_10 : decode cX8_orders 10 = .ok (.iload_n 3, 1) := by decide +kernel
theorem dX8_orders_11 : decode cX8_orders 11 = .ok (.imul, 1) := by decide +kernel
theorem dX8_orders_12 : decode cX8_orders 12 = .ok (.istore_n 2, 1) := by decide +kernel
theorem dX8_orders_13 : decode cX8_orders 13 = .ok (.iinc 3 1, 3) := by decide +kernel
theorem dX8_orders_16 : decode cX8_orders 16 = .ok (.goto (-12), 3) := by decide +kernel
theorem dX8_orders_19 : decode cX8_orders 19 = .ok (.iconst 2, 1) := by decide +kernel
theorem dX8_orders_20 : decode cX8_orders 20 = .ok (.istore_n 3, 1) := by decide +kernel
theorem dX8_orders_21 : decode cX8_orders 21 = .ok (.iload_n 3, 1) := by decide +kernel
theorem dX8_orders_22 : decode cX8_orders 22 = .ok (.iload_n 0, 1) := by decide +kernel
theorem dX8_orders_23 : decode cX8_orders 23 = .ok (.iconst 1, 1) := by decide +kernel
theorem dX8_orders_24 : decode cX8_orders 24 = .ok (.isub, 1) := by decide +kernel
theorem dX8_orders_25 : decode cX8_orders 25 = .ok (.iload_n 1, 1) := by decide +kernel
theorem dX8_orders_26 : decode cX8_orders 26 = .ok (.isub, 1) := by decide +kernel
theorem dX8_orders_27 : decode cX8_orders 27 = .ok (.if_icmp .gt 13, 3) := by decide +kernel
theorem dX8_orders_30 : decode cX8_orders 30 = .ok (.iload_n 2, 1) := by decide +kernel
theorem dX8_orders_31 : decode cX8_orders 31 = .ok (.iload_n 3, 1) := by decide +kernel
theorem dX8_orders_32 : decode cX8_orders 32 = .ok (.imul, 1) := by decide +kernel
theorem dX8_orders_33 : decode cX8_orders 33 = .ok (.istore_n 2, 1) := by decide +kernel
theorem dX8_orders_34 : decode cX8_orders 34 = .ok (.iinc 3 1, 3) := by decide +kernel
theorem dX8_orders_37 : decode cX8_orders 37 = .ok (.goto (-16), 3) := by decide +kernel
theorem dX8_orders_40 : decode cX8_orders 40 = .ok (.iload_n 2, 1) := by decide +kernel
theorem dX8_orders_41 : decode cX8_orders 41 = .ok (.ireturn, 1) := by decide +kernel
theorem dX8_share_0 : decode cX8_share 0 = .ok (.aload_n 0, 1) := by decide +kernel
theorem dX8_share_1 : decode cX8_share 1 = .ok (.iconst 0, 1) := by decide +kernel
theorem dX8_share_2 : decode cX8_share 2 = .ok (.putfield 59, 3) := by decide +kernel
theorem dX8_share_5 : decode cX8_share 5 = .ok (.aload_n 0, 1) := by decide +kernel
theorem dX8_share_6 : decode cX8_share 6 = .ok (.getfield 16, 3) := by decide +kernel
theorem dX8_share_9 : decode cX8_share 9 = .ok (.iconst 0, 1) := by decide +kernel
theorem dX8_share_10 : decode cX8_share 10 = .ok (.iaload, 1) := by decide +kernel
theorem dX8_share_11 : decode cX8_share 11 = .ok (.istore_n 3, 1) := by decide +kernel
theorem dX8_share_12 : decode cX8_share 12 = .ok (.aload_n 0, 1) := by decide +kernel
theorem dX8_share_13 : decode cX8_share 13 = .ok (.iload_n 1, 1) := by decide +kernel
theorem dX8_share_14 : decode cX8_share 14 = .ok (.invokevirtual 164, 3) := by decide +kernel
theorem dX8_share_17 : decode cX8_share 17 = .ok (.ifCond .eq 5, 3) := by decide +kernel
theorem dX8_share_20 : decode cX8_share 20 = .ok (.iconst (-1), 1) := by decide +kernel
theorem dX8_share_21 : decode cX8_share 21 = .ok (.ireturn, 1) := by decide +kernel
theorem dX8_share_22 : decode cX8_share 22 = .ok (.iconst 0, 1) := by decide +kernel
theorem dX8_share_23 : decode cX8_share 23 = .ok (.istore 4, 2) := by decide +kernel
theorem dX8_share_25 : decode cX8_share 25 = .ok (.iload 4, 2) := by decide +kernel
theorem dX8_share_27 : decode cX8_share 27 = .ok (.iconst 1, 1) := by decide +kernel
theorem dX8_share_28 : decode cX8_share 28 = .ok (.iload_n 3, 1) := by decide +kernel
theorem dX8_share_29 : decode cX8_share 29 = .ok (.ishl, 1) := by decide +kernel
theorem dX8_share_30 : decode cX8_share 30 = .ok (.if_icmp .ge 39, 3) := by decide +kernel
theorem dX8_share_33 : decode cX8_share 33 = .ok (.aload_n 0, 1) := by decide +kernel
theorem dX8_share_34 : decode cX8_share 34 = .ok (.aload_n 0, 1) := by decide +kernel
theorem dX8_share_35 : decode cX8_share 35 = .ok (.getfield 16, 3) := by decide +kernel
theorem dX8_share_38 : decode cX8_share 38 = .ok (.iload 4, 2) := by decide +kernel
theorem dX8_share_40 : decode cX8_share 40 = .ok (.invokevirtual 207, 3) := by decide +kernel
theorem dX8_share_43 : decode cX8_share 43 = .ok (.istore 5, 2) := by decide +kernel
theorem dX8_share_45 : decode cX8_share 45 = .ok (.aload_n 0, 1) := by decide +kernel
theorem dX8_share_46 : decode cX8_share 46 = .ok (.getfield 56, 3) := by decide +kernel
theorem dX8_share_49 : decode cX8_share 49 = .ok (.iload 4, 2) := by decide +kernel
theorem dX8_share_51 : decode cX8_share 51 = .ok (.iload 5, 2) := by decide +kernel
theorem dX8_share_53 : decode cX8_share 53 = .ok (.ifCond .ge 7, 3) := by decide +kernel
theorem dX8_share_56 : decode cX8_share 56 = .ok (.iconst 0, 1) := by decide +kernel
theorem dX8_share_57 : decode cX8_share 57 = .ok (.goto 5, 3) := by decide +kernel
theorem dX8_share_60 : decode cX8_share 60 = .ok (.iload 5, 2) := by decide +kernel
theorem dX8_share_62 : decode cX8_share 62 = .ok (.iastore, 1) := by decide +kernel
theorem dX8_share_63 : decode cX8_share 63 = .ok (.iinc 4 1, 3) := by decide +kernel
theorem dX8_share_66 : decode cX8_share 66 = .ok (.goto (-41), 3) := by decide +kernel
theorem dX8_share_69 : decode cX8_share 69 = .ok (.iconst 0, 1) := by decide +kernel
theorem dX8_share_70 : decode cX8_share 70 = .ok (.istore 4, 2) := by decide +kernel
theorem dX8_share_72 : decode cX8_share 72 = .ok (.iconst 0, 1) := by decide +kernel
theorem dX8_share_73 : decode cX8_share 73 = .ok (.istore 5, 2) := by decide +kernel
theorem dX8_share_75 : decode cX8_share 75 = .ok (.iconst 0, 1) := by decide +kernel
theorem dX8_share_76 : decode cX8_share 76 = .ok (.istore 6, 2) := by decide +kernel
theorem dX8_share_78 : decode cX8_share 78 = .ok (.iload 6, 2) := by decide +kernel
theorem dX8_share_80 : decode cX8_share 80 = .ok (.iconst 1, 1) := by decide +kernel
theorem dX8_share_81 : decode cX8_share 81 = .ok (.iload_n 3, 1) := by decide +kernel
theorem dX8_share_82 : decode cX8_share 82 = .ok (.ishl, 1) := by decide +kernel
theorem dX8_share_83 : decode cX8_share 83 = .ok (.if_icmp .ge 64, 3) := by decide +kernel
theorem dX8_share_86 : decode cX8_share 86 = .ok (.iload 6, 2) := by decide +kernel
theorem dX8_share_88 : decode cX8_share 88 = .ok (.iload_n 1, 1) := by decide +kernel
theorem dX8_share_89 : decode cX8_share 89 = .ok (.invokestatic 132, 3) := by decide +kernel
theorem dX8_share_92 : decode cX8_share 92 = .ok (.ifCond .ne 49, 3) := by decide +kernel
theorem dX8_share_95 : decode cX8_share 95 = .ok (.iload_n 3, 1) := by decide +kernel
theorem dX8_share_96 : decode cX8_share 96 = .ok (.iload 6, 2) := by decide +kernel
theorem dX8_share_98 : decode cX8_share 98 = .ok (.i2l, 1) := by decide +kernel
theorem dX8_share_99 : decode cX8_share 99 = .ok (.invokestatic 154, 3) := by decide +kernel
theorem dX8_share_102 : decode cX8_share 102 = .ok (.invokestatic 231, 3) := by decide +kernel
theorem dX8_share_105 : decode cX8_share 105 = .ok (.istore 7, 2) := by decide +kernel
theorem dX8_share_107 : decode cX8_share 107 = .ok (.iload 5, 2) := by decide +kernel
theorem dX8_share_109 : decode cX8_share 109 = .ok (.iload 7, 2) := by decide +kernel
theorem dX8_share_111 : decode cX8_share 111 = .ok (.iadd, 1) := by decide +kernel
theorem dX8_share_112 : decode cX8_share 112 = .ok (.istore 5, 2) := by decide +kernel
theorem dX8_share_114 : decode cX8_share 114 = .ok (.iload 4, 2) := by decide +kernel
theorem dX8_share_116 : decode cX8_share 116 = .ok (.iload 7, 2) := by decide +kernel
theorem dX8_share_118 : decode cX8_share 118 = .ok (.aload_n 0, 1) := by decide +kernel
theorem dX8_share_119 : decode cX8_share 119 = .ok (.getfield 56, 3) := by decide +kernel
theorem dX8_share_122 : decode cX8_share 122 = .ok (.iload 6, 2) := by decide +kernel
theorem dX8_share_124 : decode cX8_share 124 = .ok (.iconst 1, 1) := by decide +kernel
theorem dX8_share_125 : decode cX8_share 125 = .ok (.iload_n 1, 1) := by decide +kernel
theorem dX8_share_126 : decode cX8_share 126 = .ok (.ishl, 1) := by decide +kernel
theorem dX8_share_127 : decode cX8_share 127 = .ok (.ior, 1) := by decide +kernel
theorem dX8_share_128 : decode cX8_share 128 = .ok (.iaload, 1) := by decide +kernel
theorem dX8_share_129 : decode cX8_share 129 = .ok (.aload_n 0, 1) := by decide +kernel
theorem dX8_share_130 : decode cX8_share 130 = .ok (.getfield 56, 3) := by decide +kernel
theorem dX8_share_133 : decode cX8_share 133 = .ok (.iload 6, 2) := by decide +kernel
theorem dX8_share_135 : decode cX8_share 135 = .ok (.iaload, 1) := by decide +kernel
theorem dX8_share_136 : decode cX8_share 136 = .ok (.isub, 1) := by decide +kernel
theorem dX8_share_137 : decode cX8_share 137 = .ok (.imul, 1) := by decide +kernel
theorem dX8_share_138 : decode cX8_share 138 = .ok (.iadd, 1) := by decide +kernel
theorem dX8_share_139 : decode cX8_share 139 = .ok (.istore 4, 2) := by decide +kernel
theorem dX8_share_141 : decode cX8_share 141 = .ok (.iinc 6 1, 3) := by decide +kernel
theorem dX8_share_144 : decode cX8_share 144 = .ok (.goto (-66), 3) := by decide +kernel
theorem dX8_share_147 : decode cX8_share 147 = .ok (.iload 4, 2) := by decide +kernel
theorem dX8_share_149 : decode cX8_share 149 = .ok (.bipush 60, 2) := by decide +kernel
theorem dX8_share_151 : decode cX8_share 151 = .ok (.iload 5, 2) := by decide +kernel
theorem dX8_share_153 : decode cX8_share 153 = .ok (.imul, 1) := by decide +kernel
theorem dX8_share_154 : decode cX8_share 154 = .ok (.iload_n 2, 1) := by decide +kernel
theorem dX8_share_155 : decode cX8_share 155 = .ok (.invokestatic 177, 3) := by decide +kernel
theorem dX8_share_158 : decode cX8_share 158 = .ok (.ireturn, 1) := by decide +kernel
theorem dX8_see_0 : decode cX8_see 0 = .ok (.aload_n 0, 1) := by decide +kernel
theorem dX8_see_1 : decode cX8_see 1 = .ok (.iconst 0, 1) := by decide +kernel
theorem dX8_see_2 : decode cX8_see 2 = .ok (.putfield 59, 3) := by decide +kernel
theorem dX8_see_5 : decode cX8_see 5 = .ok (.aload_n 0, 1) := by decide +kernel
theorem dX8_see_6 : decode cX8_see 6 = .ok (.iload_n 1, 1) := by decide +kernel
theorem dX8_see_7 : decode cX8_see 7 = .ok (.invokevirtual 164, 3) := by decide +kernel
theorem dX8_see_10 : decode cX8_see 10 = .ok (.ifCond .eq 5, 3) := by decide +kernel
theorem dX8_see_13 : decode cX8_see 13 = .ok (.iconst (-1), 1) := by decide +kernel
theorem dX8_see_14 : decode cX8_see 14 = .ok (.ireturn, 1) := by decide +kernel
theorem dX8_see_15 : decode cX8_see 15 = .ok (.iload_n 2, 1) := by decide +kernel
theorem dX8_see_16 : decode cX8_see 16 = .ok (.i2l, 1) := by decide +kernel
theorem dX8_see_17 : decode cX8_see 17 = .ok (.lconst 1, 1) := by decide +kernel
theorem dX8_see_18 : decode cX8_see 18 = .ok (.ldc2_w 168, 3) := by decide +kernel
theorem dX8_see_21 : decode cX8_see 21 = .ok (.invokestatic 63, 3) := by decide +kernel
theorem dX8_see_24 : decode cX8_see 24 = .ok (.ifCond .eq 13, 3) := by decide +kernel
theorem dX8_see_27 : decode cX8_see 27 = .ok (.iload_n 3, 1) := by decide +kernel
theorem dX8_see_28 : decode cX8_see 28 = .ok (.i2l, 1) := by decide +kernel
theorem dX8_see_29 : decode cX8_see 29 = .ok (.lconst 0, 1) := by decide +kernel
theorem dX8_see_30 : decode cX8_see 30 = .ok (.lconst 1, 1) := by decide +kernel
theorem dX8_see_31 : decode cX8_see 31 = .ok (.invokestatic 63, 3) := by decide +kernel
theorem dX8_see_34 : decode cX8_see 34 = .ok (.ifCond .ne 6, 3) := by decide +kernel
theorem dX8_see_37 : decode cX8_see 37 = .ok (.bipush (-2), 2) := by decide +kernel
theorem dX8_see_39 : decode cX8_see 39 = .ok (.ireturn, 1) := by decide +kernel
theorem dX8_see_40 : decode cX8_see 40 = .ok (.aload_n 0, 1) := by decide +kernel
theorem dX8_see_41 : decode cX8_see 41 = .ok (.getfield 161, 3) := by decide +kernel
theorem dX8_see_44 : decode cX8_see 44 = .ok (.bipush 6, 2) := by decide +kernel
theorem dX8_see_46 : decode cX8_see 46 = .ok (.if_icmp .ne 6, 3) := by decide +kernel
theorem dX8_see_49 : decode cX8_see 49 = .ok (.bipush (-4), 2) := by decide +kernel
theorem dX8_see_51 : decode cX8_see 51 = .ok (.ireturn, 1) := by decide +kernel
theorem dX8_see_52 : decode cX8_see 52 = .ok (.aload_n 0, 1) := by decide +kernel
theorem dX8_see_53 : decode cX8_see 53 = .ok (.getfield 32, 3) := by decide +kernel
theorem dX8_see_56 : decode cX8_see 56 = .ok (.aload_n 0, 1) := by decide +kernel
theorem dX8_see_57 : decode cX8_see 57 = .ok (.getfield 161, 3) := by decide +kernel
theorem dX8_see_60 : decode cX8_see 60 = .ok (.iload_n 1, 1) := by decide +kernel
theorem dX8_see_61 : decode cX8_see 61 = .ok (.iastore, 1) := by decide +kernel
theorem dX8_see_62 : decode cX8_see 62 = .ok (.aload_n 0, 1) := by decide +kernel
theorem dX8_see_63 : decode cX8_see 63 = .ok (.getfield 35, 3) := by decide +kernel
theorem dX8_see_66 : decode cX8_see 66 = .ok (.aload_n 0, 1) := by decide +kernel
theorem dX8_see_67 : decode cX8_see 67 = .ok (.getfield 161, 3) := by decide +kernel
theorem dX8_see_70 : decode cX8_see 70 = .ok (.iload_n 2, 1) := by decide +kernel
theorem dX8_see_71 : decode cX8_see 71 = .ok (.iastore, 1) := by decide +kernel
theorem dX8_see_72 : decode cX8_see 72 = .ok (.aload_n 0, 1) := by decide +kernel
theorem dX8_see_73 : decode cX8_see 73 = .ok (.getfield 38, 3) := by decide +kernel
theorem dX8_see_76 : decode cX8_see 76 = .ok (.aload_n 0, 1) := by decide +kernel
theorem dX8_see_77 : decode cX8_see 77 = .ok (.getfield 161, 3) := by decide +kernel
theorem dX8_see_80 : decode cX8_see 80 = .ok (.iload_n 3, 1) := by decide +kernel
theorem dX8_see_81 : decode cX8_see 81 = .ok (.iastore, 1) := by decide +kernel
theorem dX8_see_82 : decode cX8_see 82 = .ok (.aload_n 0, 1) := by decide +kernel
theorem dX8_see_83 : decode cX8_see 83 = .ok (.dup, 1) := by decide +kernel
theorem dX8_see_84 : decode cX8_see 84 = .ok (.getfield 161, 3) := by decide +kernel
theorem dX8_see_87 : decode cX8_see 87 = .ok (.iconst 1, 1) := by decide +kernel
theorem dX8_see_88 : decode cX8_see 88 = .ok (.iadd, 1) := by decide +kernel
theorem dX8_see_89 : decode cX8_see 89 = .ok (.putfield 161, 3) := by decide +kernel
theorem dX8_see_92 : decode cX8_see 92 = .ok (.aload_n 0, 1) := by decide +kernel
theorem dX8_see_93 : decode cX8_see 93 = .ok (.getfield 161, 3) := by decide +kernel
theorem dX8_see_96 : decode cX8_see 96 = .ok (.ireturn, 1) := by decide +kernel
theorem dX8_unsee_0 : decode cX8_unsee 0 = .ok (.aload_n 0, 1) := by decide +kernel
theorem dX8_unsee_1 : decode cX8_unsee 1 = .ok (.iconst 0, 1) := by decide +kernel
theorem dX8_unsee_2 : decode cX8_unsee 2 = .ok (.putfield 59, 3) := by decide +kernel
theorem dX8_unsee_5 : decode cX8_unsee 5 = .ok (.aload_n 0, 1) := by decide +kernel
theorem dX8_unsee_6 : decode cX8_unsee 6 = .ok (.getfield 161, 3) := by decide +kernel
theorem dX8_unsee_9 : decode cX8_unsee 9 = .ok (.istore_n 1, 1) := by decide +kernel
theorem dX8_unsee_10 : decode cX8_unsee 10 = .ok (.aload_n 0, 1) := by decide +kernel
theorem dX8_unsee_11 : decode cX8_unsee 11 = .ok (.iconst 0, 1) := by decide +kernel
theorem dX8_unsee_12 : decode cX8_unsee 12 = .ok (.putfield 161, 3) := by decide +kernel
theorem dX8_unsee_15 : decode cX8_unsee 15 = .ok (.iload_n 1, 1) := by decide +kernel
theorem dX8_unsee_16 : decode cX8_unsee 16 = .ok (.ireturn, 1) := by decide +kernel
theorem dX8_explains_0 : decode cX8_explains 0 = .ok (.aload_n 0, 1) := by decide +kernel
theorem dX8_explains_1 : decode cX8_explains 1 = .ok (.iload_n 1, 1) := by decide +kernel
theorem dX8_explains_2 : decode cX8_explains 2 = .ok (.iload_n 2, 1) := by decide +kernel
theorem dX8_explains_3 : decode cX8_explains 3 = .ok (.invokevirtual 194, 3) := by decide +kernel
theorem dX8_explains_6 : decode cX8_explains 6 = .ok (.iconst 1, 1) := by decide +kernel
theorem dX8_explains_7 : decode cX8_explains 7 = .ok (.istore_n 3, 1) := by decide +kernel
theorem dX8_explains_8 : decode cX8_explains 8 = .ok (.iconst 1, 1) := by decide +kernel
theorem dX8_explains_9 : decode cX8_explains 9 = .ok (.istore 4, 2) := by decide +kernel
theorem dX8_explains_11 : decode cX8_explains 11 = .ok (.iload 4, 2) := by decide +kernel
theorem dX8_explains_13 : decode cX8_explains 13 = .ok (.bipush 10, 2) := by decide +kernel
theorem dX8_explains_15 : decode cX8_explains 15 = .ok (.if_icmp .ge 99, 3) := by decide +kernel
theorem dX8_explains_18 : decode cX8_explains 18 = .ok (.aload_n 0, 1) := by decide +kernel
theorem dX8_explains_19 : decode cX8_explains 19 = .ok (.aload_n 0, 1) := by decide +kernel
theorem dX8_explains_20 : decode cX8_explains 20 = .ok (.getfield 16, 3) := by decide +kernel
theorem dX8_explains_23 : decode cX8_explains 23 = .ok (.bipush 10, 2) := by decide +kernel
theorem dX8_explains_25 : decode cX8_explains 25 = .ok (.invokevirtual 198, 3) := by decide +kernel
theorem dX8_explains_28 : decode cX8_explains 28 = .ok (.pop, 1) := by decide +kernel
theorem dX8_explains_29 : decode cX8_explains 29 = .ok (.iconst 0, 1) := by decide +kernel
theorem dX8_explains_30 : decode cX8_explains 30 = .ok (.istore 5, 2) := by decide +kernel
theorem dX8_explains_32 : decode cX8_explains 32 = .ok (.iload 5, 2) := by decide +kernel
theorem dX8_explains_34 : decode cX8_explains 34 = .ok (.aload_n 0, 1) := by decide +kernel
theorem dX8_explains_35 : decode cX8_explains 35 = .ok (.getfield 161, 3) := by decide +kernel
theorem dX8_explains_38 : decode cX8_explains 38 = .ok (.if_icmp .ge 70, 3) := by decide +kernel
theorem dX8_explains_41 : decode cX8_explains 41 = .ok (.iload_n 3, 1) := by decide +kernel
theorem dX8_explains_42 : decode cX8_explains 42 = .ok (.ifCond .eq 58, 3) := by decide +kernel
theorem dX8_explains_45 : decode cX8_explains 45 = .ok (.aload_n 0, 1) := by decide +kernel
theorem dX8_explains_46 : decode cX8_explains 46 = .ok (.getfield 35, 3) := by decide +kernel
theorem dX8_explains_49 : decode cX8_explains 49 = .ok (.iload 5, 2) := by decide +kernel
theorem dX8_explains_51 : decode cX8_explains 51 = .ok (.iaload, 1) := by decide +kernel
theorem dX8_explains_52 : decode cX8_explains 52 = .ok (.iload 4, 2) := by decide +kernel
theorem dX8_explains_54 : decode cX8_explains 54 = .ok (.if_icmp .ne 42, 3) := by decide +kernel
theorem dX8_explains_57 : decode cX8_explains 57 = .ok (.aload_n 0, 1) := by decide +kernel
theorem dX8_explains_58 : decode cX8_explains 58 = .ok (.getfield 50, 3) := by decide +kernel
theorem dX8_explains_61 : decode cX8_explains 61 = .ok (.aload_n 0, 1) := by decide +kernel
theorem dX8_explains_62 : decode cX8_explains 62 = .ok (.getfield 32, 3) := by decide +kernel
theorem dX8_explains_65 : decode cX8_explains 65 = .ok (.iload 5, 2) := by decide +kernel
theorem dX8_explains_67 : decode cX8_explains 67 = .ok (.iaload, 1) := by decide +kernel
theorem dX8_explains_68 : decode cX8_explains 68 = .ok (.iaload, 1) := by decide +kernel
theorem dX8_explains_69 : decode cX8_explains 69 = .ok (.ifCond .le 7, 3) := by decide +kernel
theorem dX8_explains_72 : decode cX8_explains 72 = .ok (.iconst 1, 1) := by decide +kernel
theorem dX8_explains_73 : decode cX8_explains 73 = .ok (.goto 4, 3) := by decide +kernel
theorem dX8_explains_76 : decode cX8_explains 76 = .ok (.iconst 0, 1) := by decide +kernel
theorem dX8_explains_77 : decode cX8_explains 77 = .ok (.aload_n 0, 1) := by decide +kernel
theorem dX8_explains_78 : decode cX8_explains 78 = .ok (.getfield 38, 3) := by decide +kernel
theorem dX8_explains_81 : decode cX8_explains 81 = .ok (.iload 5, 2) := by decide +kernel
theorem dX8_explains_83 : decode cX8_explains 83 = .ok (.iaload, 1) := by decide +kernel
theorem dX8_explains_84 : decode cX8_explains 84 = .ok (.iconst 1, 1) := by decide +kernel
theorem dX8_explains_85 : decode cX8_explains 85 = .ok (.if_icmp .ne 7, 3) := by decide +kernel
theorem dX8_explains_88 : decode cX8_explains 88 = .ok (.iconst 1, 1) := by decide +kernel
theorem dX8_explains_89 : decode cX8_explains 89 = .ok (.goto 4, 3) := by decide +kernel
theorem dX8_explains_92 : decode cX8_explains 92 = .ok (.iconst 0, 1) := by decide +kernel
theorem dX8_explains_93 : decode cX8_explains 93 = .ok (.if_icmp .ne 7, 3) := by decide +kernel
theorem dX8_explains_96 : decode cX8_explains 96 = .ok (.iconst 1, 1) := by decide +kernel
theorem dX8_explains_97 : decode cX8_explains 97 = .ok (.goto 4, 3) := by decide +kernel
theorem dX8_explains_100 : decode cX8_explains 100 = .ok (.iconst 0, 1) := by decide +kernel
theorem dX8_explains_101 : decode cX8_explains 101 = .ok (.istore_n 3, 1) := by decide +kernel
theorem dX8_explains_102 : decode cX8_explains 102 = .ok (.iinc 5 1, 3) := by decide +kernel
theorem dX8_explains_105 : decode cX8_explains 105 = .ok (.goto (-73), 3) := by decide +kernel
theorem dX8_explains_108 : decode cX8_explains 108 = .ok (.iinc 4 1, 3) := by decide +kernel
theorem dX8_explains_111 : decode cX8_explains 111 = .ok (.goto (-100), 3) := by decide +kernel
theorem dX8_explains_114 : decode cX8_explains 114 = .ok (.iload_n 3, 1) := by decide +kernel
theorem dX8_explains_115 : decode cX8_explains 115 = .ok (.ireturn, 1) := by decide +kernel
theorem dX8_began_0 : decode cX8_began 0 = .ok (.aload_n 0, 1) := by decide +kernel
theorem dX8_began_1 : decode cX8_began 1 = .ok (.iconst 0, 1) := by decide +kernel
theorem dX8_began_2 : decode cX8_began 2 = .ok (.putfield 59, 3) := by decide +kernel
theorem dX8_began_5 : decode cX8_began 5 = .ok (.iload_n 1, 1) := by decide +kernel
theorem dX8_began_6 : decode cX8_began 6 = .ok (.i2l, 1) := by decide +kernel
theorem dX8_began_7 : decode cX8_began 7 = .ok (.lconst 0, 1) := by decide +kernel
theorem dX8_began_8 : decode cX8_began 8 = .ok (.lconst 1, 1) := by decide +kernel
theorem dX8_began_9 : decode cX8_began 9 = .ok (.invokestatic 63, 3) := by decide +kernel
theorem dX8_began_12 : decode cX8_began 12 = .ok (.ifCond .ne 6, 3) := by decide +kernel
theorem dX8_began_15 : decode cX8_began 15 = .ok (.bipush (-2), 2) := by decide +kernel
theorem dX8_began_17 : decode cX8_began 17 = .ok (.ireturn, 1) := by decide +kernel
theorem dX8_began_18 : decode cX8_began 18 = .ok (.aload_n 0, 1) := by decide +kernel
theorem dX8_began_19 : decode cX8_began 19 = .ok (.iconst 0, 1) := by decide +kernel
theorem dX8_began_20 : decode cX8_began 20 = .ok (.putfield 234, 3) := by decide +kernel
theorem dX8_began_23 : decode cX8_began 23 = .ok (.aload_n 0, 1) := by decide +kernel
theorem dX8_began_24 : decode cX8_began 24 = .ok (.bipush (-9), 2) := by decide +kernel
theorem dX8_began_26 : decode cX8_began 26 = .ok (.putfield 237, 3) := by decide +kernel
theorem dX8_began_29 : decode cX8_began 29 = .ok (.aload_n 0, 1) := by decide +kernel
theorem dX8_began_30 : decode cX8_began 30 = .ok (.aload_n 0, 1) := by decide +kernel
theorem dX8_began_31 : decode cX8_began 31 = .ok (.getfield 16, 3) := by decide +kernel
theorem dX8_began_34 : decode cX8_began 34 = .ok (.bipush 10, 2) := by decide +kernel
theorem dX8_began_36 : decode cX8_began 36 = .ok (.invokevirtual 183, 3) := by decide +kernel
theorem dX8_began_39 : decode cX8_began 39 = .ok (.iconst 0, 1) := by decide +kernel
theorem dX8_began_40 : decode cX8_began 40 = .ok (.istore_n 2, 1) := by decide +kernel
theorem dX8_began_41 : decode cX8_began 41 = .ok (.iload_n 2, 1) := by decide +kernel
theorem dX8_began_42 : decode cX8_began 42 = .ok (.aload_n 0, 1) := by decide +kernel
theorem dX8_began_43 : decode cX8_began 43 = .ok (.getfield 16, 3) := by decide +kernel
theorem dX8_began_46 : decode cX8_began 46 = .ok (.iconst 0, 1) := by decide +kernel
theorem dX8_began_47 : decode cX8_began 47 = .ok (.iaload, 1) := by decide +kernel
theorem dX8_began_48 : decode cX8_began 48 = .ok (.if_icmp .ge 79, 3) := by decide +kernel
theorem dX8_began_51 : decode cX8_began 51 = .ok (.iconst 1, 1) := by decide +kernel
theorem dX8_began_52 : decode cX8_began 52 = .ok (.istore_n 3, 1) := by decide +kernel
theorem dX8_began_53 : decode cX8_began 53 = .ok (.iload_n 3, 1) := by decide +kernel
theorem dX8_began_54 : decode cX8_began 54 = .ok (.bipush 30, 2) := by decide +kernel
theorem dX8_began_56 : decode cX8_began 56 = .ok (.if_icmp .gt 65, 3) := by decide +kernel
theorem dX8_began_59 : decode cX8_began 59 = .ok (.aload_n 0, 1) := by decide +kernel
theorem dX8_began_60 : decode cX8_began 60 = .ok (.iload_n 2, 1) := by decide +kernel
theorem dX8_began_61 : decode cX8_began 61 = .ok (.iload_n 3, 1) := by decide +kernel
theorem dX8_began_62 : decode cX8_began 62 = .ok (.invokevirtual 240, 3) := by decide +kernel
theorem dX8_began_65 : decode cX8_began 65 = .ok (.istore 4, 2) := by decide +kernel
theorem dX8_began_67 : decode cX8_began 67 = .ok (.aload_n 0, 1) := by decide +kernel
theorem dX8_began_68 : decode cX8_began 68 = .ok (.iload 4, 2) := by decide +kernel
theorem dX8_began_70 : decode cX8_began 70 = .ok (.ifCond .eq 19, 3) := by decide +kernel
theorem dX8_began_73 : decode cX8_began 73 = .ok (.aload_n 0, 1) := by decide +kernel
theorem dX8_began_74 : decode cX8_began 74 = .ok (.getfield 234, 3) := by decide +kernel
theorem dX8_began_77 : decode cX8_began 77 = .ok (.ifCond .ne 12, 3) := by decide +kernel
theorem dX8_began_80 : decode cX8_began 80 = .ok (.bipush 100, 2) := by decide +kernel
theorem dX8_began_82 : decode cX8_began 82 = .ok (.iload_n 2, 1) := by decide +kernel
theorem dX8_began_83 : decode cX8_began 83 = .ok (.imul, 1) := by decide +kernel
theorem dX8_began_84 : decode cX8_began 84 = .ok (.iload_n 3, 1) := by decide +kernel
theorem dX8_began_85 : decode cX8_began 85 = .ok (.iadd, 1) := by decide +kernel
theorem dX8_began_86 : decode cX8_began 86 = .ok (.goto 7, 3) := by decide +kernel
theorem dX8_began_89 : decode cX8_began 89 = .ok (.aload_n 0, 1) := by decide +kernel
theorem dX8_began_90 : decode cX8_began 90 = .ok (.getfield 237, 3) := by decide +kernel
theorem dX8_began_93 : decode cX8_began 93 = .ok (.putfield 237, 3) := by decide +kernel
theorem dX8_began_96 : decode cX8_began 96 = .ok (.aload_n 0, 1) := by decide +kernel
theorem dX8_began_97 : decode cX8_began 97 = .ok (.dup, 1) := by decide +kernel
theorem dX8_began_98 : decode cX8_began 98 = .ok (.getfield 234, 3) := by decide +kernel
theorem dX8_began_101 : decode cX8_began 101 = .ok (.iload 4, 2) := by decide +kernel
theorem dX8_began_103 : decode cX8_began 103 = .ok (.ifCond .eq 7, 3) := by decide +kernel
theorem dX8_began_106 : decode cX8_began 106 = .ok (.iconst 1, 1) := by decide +kernel
theorem dX8_began_107 : decode cX8_began 107 = .ok (.goto 4, 3) := by decide +kernel
theorem dX8_began_110 : decode cX8_began 110 = .ok (.iconst 0, 1) := by decide +kernel
theorem dX8_began_111 : decode cX8_began 111 = .ok (.iadd, 1) := by decide +kernel
theorem dX8_began_112 : decode cX8_began 112 = .ok (.putfield 234, 3) := by decide +kernel
theorem dX8_began_115 : decode cX8_began 115 = .ok (.iinc 3 1, 3) := by decide +kernel
theorem dX8_began_118 : decode cX8_began 118 = .ok (.goto (-65), 3) := by decide +kernel
theorem dX8_began_121 : decode cX8_began 121 = .ok (.iinc 2 1, 3) := by decide +kernel
theorem dX8_began_124 : decode cX8_began 124 = .ok (.goto (-83), 3) := by decide +kernel
theorem dX8_began_127 : decode cX8_began 127 = .ok (.iload_n 1, 1) := by decide +kernel
theorem dX8_began_128 : decode cX8_began 128 = .ok (.ifCond .ne 10, 3) := by decide +kernel
theorem dX8_began_131 : decode cX8_began 131 = .ok (.aload_n 0, 1) := by decide +kernel
theorem dX8_began_132 : decode cX8_began 132 = .ok (.getfield 234, 3) := by decide +kernel
theorem dX8_began_135 : decode cX8_began 135 = .ok (.goto 7, 3) := by decide +kernel
theorem dX8_began_138 : decode cX8_began 138 = .ok (.aload_n 0, 1) := by decide +kernel
theorem dX8_began_139 : decode cX8_began 139 = .ok (.getfield 237, 3) := by decide +kernel
theorem dX8_began_142 : decode cX8_began 142 = .ok (.ireturn, 1) := by decide +kernel
theorem dX8_drops_0 : decode cX8_drops 0 = .ok (.aload_n 0, 1) := by decide +kernel
theorem dX8_drops_1 : decode cX8_drops 1 = .ok (.invokevirtual 204, 3) := by decide +kernel
theorem dX8_drops_4 : decode cX8_drops 4 = .ok (.iconst 0, 1) := by decide +kernel
theorem dX8_drops_5 : decode cX8_drops 5 = .ok (.istore_n 3, 1) := by decide +kernel
theorem dX8_drops_6 : decode cX8_drops 6 = .ok (.iconst 0, 1) := by decide +kernel
theorem dX8_drops_7 : decode cX8_drops 7 = .ok (.istore 4, 2) := by decide +kernel
theorem dX8_drops_9 : decode cX8_drops 9 = .ok (.iload 4, 2) := by decide +kernel
theorem dX8_drops_11 : decode cX8_drops 11 = .ok (.aload_n 0, 1) := by decide +kernel
theorem dX8_drops_12 : decode cX8_drops 12 = .ok (.getfield 16, 3) := by decide +kernel
theorem dX8_drops_15 : decode cX8_drops 15 = .ok (.iconst 0, 1) := by decide +kernel
theorem dX8_drops_16 : decode cX8_drops 16 = .ok (.iaload, 1) := by decide +kernel
theorem dX8_drops_17 : decode cX8_drops 17 = .ok (.if_icmp .ge 65, 3) := by decide +kernel
theorem dX8_drops_20 : decode cX8_drops 20 = .ok (.aload_n 0, 1) := by decide +kernel
theorem dX8_drops_21 : decode cX8_drops 21 = .ok (.getfield 16, 3) := by decide +kernel
theorem dX8_drops_24 : decode cX8_drops 24 = .ok (.iload_n 1, 1) := by decide +kernel
theorem dX8_drops_25 : decode cX8_drops 25 = .ok (.iload 4, 2) := by decide +kernel
theorem dX8_drops_27 : decode cX8_drops 27 = .ok (.invokestatic 79, 3) := by decide +kernel
theorem dX8_drops_30 : decode cX8_drops 30 = .ok (.ifCond .eq 46, 3) := by decide +kernel
theorem dX8_drops_33 : decode cX8_drops 33 = .ok (.aload_n 0, 1) := by decide +kernel
theorem dX8_drops_34 : decode cX8_drops 34 = .ok (.getfield 19, 3) := by decide +kernel
theorem dX8_drops_37 : decode cX8_drops 37 = .ok (.iconst 1, 1) := by decide +kernel
theorem dX8_drops_38 : decode cX8_drops 38 = .ok (.bipush 6, 2) := by decide +kernel
theorem dX8_drops_40 : decode cX8_drops 40 = .ok (.iload_n 1, 1) := by decide +kernel
theorem dX8_drops_41 : decode cX8_drops 41 = .ok (.imul, 1) := by decide +kernel
theorem dX8_drops_42 : decode cX8_drops 42 = .ok (.iadd, 1) := by decide +kernel
theorem dX8_drops_43 : decode cX8_drops 43 = .ok (.iload 4, 2) := by decide +kernel
theorem dX8_drops_45 : decode cX8_drops 45 = .ok (.iadd, 1) := by decide +kernel
theorem dX8_drops_46 : decode cX8_drops 46 = .ok (.iload_n 2, 1) := by decide +kernel
theorem dX8_drops_47 : decode cX8_drops 47 = .ok (.iload_n 3, 1) := by decide +kernel
theorem dX8_drops_48 : decode cX8_drops 48 = .ok (.invokestatic 132, 3) := by decide +kernel
theorem dX8_drops_51 : decode cX8_drops 51 = .ok (.ifCond .eq 7, 3) := by decide +kernel
theorem dX8_drops_54 : decode cX8_drops 54 = .ok (.iconst 0, 1) := by decide +kernel
theorem dX8_drops_55 : decode cX8_drops 55 = .ok (.goto 17, 3) := by decide +kernel
theorem dX8_drops_58 : decode cX8_drops 58 = .ok (.aload_n 0, 1) := by decide +kernel
theorem dX8_drops_59 : decode cX8_drops 59 = .ok (.getfield 16, 3) := by decide +kernel
theorem dX8_drops_62 : decode cX8_drops 62 = .ok (.iconst 1, 1) := by decide +kernel
theorem dX8_drops_63 : decode cX8_drops 63 = .ok (.bipush 6, 2) := by decide +kernel
theorem dX8_drops_65 : decode cX8_drops 65 = .ok (.iload_n 1, 1) := by decide +kernel
theorem dX8_drops_66 : decode cX8_drops 66 = .ok (.imul, 1) := by decide +kernel
theorem dX8_drops_67 : decode cX8_drops 67 = .ok (.iadd, 1) := by decide +kernel
theorem dX8_drops_68 : decode cX8_drops 68 = .ok (.iload 4, 2) := by decide +kernel
theorem dX8_drops_70 : decode cX8_drops 70 = .ok (.iadd, 1) := by decide +kernel
theorem dX8_drops_71 : decode cX8_drops 71 = .ok (.iaload, 1) := by decide +kernel
theorem dX8_drops_72 : decode cX8_drops 72 = .ok (.iastore, 1) := by decide +kernel
theorem dX8_drops_73 : decode cX8_drops 73 = .ok (.iinc 3 1, 3) := by decide +kernel
theorem dX8_drops_76 : decode cX8_drops 76 = .ok (.iinc 4 1, 3) := by decide +kernel
theorem dX8_drops_79 : decode cX8_drops 79 = .ok (.goto (-70), 3) := by decide +kernel
theorem dX8_drops_82 : decode cX8_drops 82 = .ok (.iload_n 3, 1) := by decide +kernel
theorem dX8_drops_83 : decode cX8_drops 83 = .ok (.ireturn, 1) := by decide +kernel
theorem dX8_dropped_0 : decode cX8_dropped 0 = .ok (.aload_n 0, 1) := by decide +kernel
theorem dX8_dropped_1 : decode cX8_dropped 1 = .ok (.iconst 0, 1) := by decide +kernel
theorem dX8_dropped_2 : decode cX8_dropped 2 = .ok (.putfield 59, 3) := by decide +kernel
theorem dX8_dropped_5 : decode cX8_dropped 5 = .ok (.aload_n 0, 1) := by decide +kernel
theorem dX8_dropped_6 : decode cX8_dropped 6 = .ok (.iload_n 1, 1) := by decide +kernel
theorem dX8_dropped_7 : decode cX8_dropped 7 = .ok (.invokevirtual 164, 3) := by decide +kernel
theorem dX8_dropped_10 : decode cX8_dropped 10 = .ok (.ifCond .eq 5, 3) := by decide +kernel
theorem dX8_dropped_13 : decode cX8_dropped 13 = .ok (.iconst (-1), 1) := by decide +kernel
theorem dX8_dropped_14 : decode cX8_dropped 14 = .ok (.ireturn, 1) := by decide +kernel
theorem dX8_dropped_15 : decode cX8_dropped 15 = .ok (.iload_n 2, 1) := by decide +kernel
theorem dX8_dropped_16 : decode cX8_dropped 16 = .ok (.i2l, 1) := by decide +kernel
theorem dX8_dropped_17 : decode cX8_dropped 17 = .ok (.lconst 0, 1) := by decide +kernel
theorem dX8_dropped_18 : decode cX8_dropped 18 = .ok (.ldc2_w 181, 3) := by decide +kernel
theorem dX8_dropped_21 : decode cX8_dropped 21 = .ok (.invokestatic 63, 3) := by decide +kernel
theorem dX8_dropped_24 : decode cX8_dropped 24 = .ok (.ifCond .eq 15, 3) := by decide +kernel
theorem dX8_dropped_27 : decode cX8_dropped 27 = .ok (.iload_n 3, 1) := by decide +kernel
theorem dX8_dropped_28 : decode cX8_dropped 28 = .ok (.i2l, 1) := by decide +kernel
theorem dX8_dropped_29 : decode cX8_dropped 29 = .ok (.lconst 0, 1) := by decide +kernel
theorem dX8_dropped_30 : decode cX8_dropped 30 = .ok (.ldc2_w 243, 3) := by decide +kernel
theorem dX8_dropped_33 : decode cX8_dropped 33 = .ok (.invokestatic 63, 3) := by decide +kernel
theorem dX8_dropped_36 : decode cX8_dropped 36 = .ok (.ifCond .ne 6, 3) := by decide +kernel
theorem dX8_dropped_39 : decode cX8_dropped 39 = .ok (.bipush (-2), 2) := by decide +kernel
theorem dX8_dropped_41 : decode cX8_dropped 41 = .ok (.ireturn, 1) := by decide +kernel
theorem dX8_dropped_42 : decode cX8_dropped 42 = .ok (.aload_n 0, 1) := by decide +kernel
theorem dX8_dropped_43 : decode cX8_dropped 43 = .ok (.iload_n 1, 1) := by decide +kernel
theorem dX8_dropped_44 : decode cX8_dropped 44 = .ok (.iconst 0, 1) := by decide +kernel
theorem dX8_dropped_45 : decode cX8_dropped 45 = .ok (.invokevirtual 245, 3) := by decide +kernel
theorem dX8_dropped_48 : decode cX8_dropped 48 = .ok (.istore 5, 2) := by decide +kernel
theorem dX8_dropped_50 : decode cX8_dropped 50 = .ok (.iconst 0, 1) := by decide +kernel
theorem dX8_dropped_51 : decode cX8_dropped 51 = .ok (.istore 6, 2) := by decide +kernel
theorem dX8_dropped_53 : decode cX8_dropped 53 = .ok (.iconst 0, 1) := by decide +kernel
theorem dX8_dropped_54 : decode cX8_dropped 54 = .ok (.istore 7, 2) := by decide +kernel
theorem dX8_dropped_56 : decode cX8_dropped 56 = .ok (.iload 7, 2) := by decide +kernel
theorem dX8_dropped_58 : decode cX8_dropped 58 = .ok (.iconst 1, 1) := by decide +kernel
theorem dX8_dropped_59 : decode cX8_dropped 59 = .ok (.iload 5, 2) := by decide +kernel
theorem dX8_dropped_61 : decode cX8_dropped 61 = .ok (.ishl, 1) := by decide +kernel
theorem dX8_dropped_62 : decode cX8_dropped 62 = .ok (.if_icmp .ge 65, 3) := by decide +kernel
theorem dX8_dropped_65 : decode cX8_dropped 65 = .ok (.aload_n 0, 1) := by decide +kernel
theorem dX8_dropped_66 : decode cX8_dropped 66 = .ok (.iload_n 1, 1) := by decide +kernel
theorem dX8_dropped_67 : decode cX8_dropped 67 = .ok (.iload 7, 2) := by decide +kernel
theorem dX8_dropped_69 : decode cX8_dropped 69 = .ok (.invokevirtual 245, 3) := by decide +kernel
theorem dX8_dropped_72 : decode cX8_dropped 72 = .ok (.pop, 1) := by decide +kernel
theorem dX8_dropped_73 : decode cX8_dropped 73 = .ok (.iload 7, 2) := by decide +kernel
theorem dX8_dropped_75 : decode cX8_dropped 75 = .ok (.i2l, 1) := by decide +kernel
theorem dX8_dropped_76 : decode cX8_dropped 76 = .ok (.invokestatic 154, 3) := by decide +kernel
theorem dX8_dropped_79 : decode cX8_dropped 79 = .ok (.istore 8, 2) := by decide +kernel
theorem dX8_dropped_81 : decode cX8_dropped 81 = .ok (.iload 6, 2) := by decide +kernel
theorem dX8_dropped_83 : decode cX8_dropped 83 = .ok (.aload_n 0, 1) := by decide +kernel
theorem dX8_dropped_84 : decode cX8_dropped 84 = .ok (.aload_n 0, 1) := by decide +kernel
theorem dX8_dropped_85 : decode cX8_dropped 85 = .ok (.getfield 19, 3) := by decide +kernel
theorem dX8_dropped_88 : decode cX8_dropped 88 = .ok (.iload_n 2, 1) := by decide +kernel
theorem dX8_dropped_89 : decode cX8_dropped 89 = .ok (.invokevirtual 150, 3) := by decide +kernel
theorem dX8_dropped_92 : decode cX8_dropped 92 = .ok (.ifCond .eq 25, 3) := by decide +kernel
theorem dX8_dropped_95 : decode cX8_dropped 95 = .ok (.iload_n 3, 1) := by decide +kernel
theorem dX8_dropped_96 : decode cX8_dropped 96 = .ok (.iload 8, 2) := by decide +kernel
theorem dX8_dropped_98 : decode cX8_dropped 98 = .ok (.invokestatic 248, 3) := by decide +kernel
theorem dX8_dropped_101 : decode cX8_dropped 101 = .ok (.bipush 10, 2) := by decide +kernel
theorem dX8_dropped_103 : decode cX8_dropped 103 = .ok (.iload_n 3, 1) := by decide +kernel
theorem dX8_dropped_104 : decode cX8_dropped 104 = .ok (.isub, 1) := by decide +kernel
theorem dX8_dropped_105 : decode cX8_dropped 105 = .ok (.iload 5, 2) := by decide +kernel
theorem dX8_dropped_107 : decode cX8_dropped 107 = .ok (.iload 8, 2) := by decide +kernel
theorem dX8_dropped_109 : decode cX8_dropped 109 = .ok (.isub, 1) := by decide +kernel
theorem dX8_dropped_110 : decode cX8_dropped 110 = .ok (.invokestatic 248, 3) := by decide +kernel
theorem dX8_dropped_113 : decode cX8_dropped 113 = .ok (.imul, 1) := by decide +kernel
theorem dX8_dropped_114 : decode cX8_dropped 114 = .ok (.goto 4, 3) := by decide +kernel
theorem dX8_dropped_117 : decode cX8_dropped 117 = .ok (.iconst 0, 1) := by decide +kernel
theorem dX8_dropped_118 : decode cX8_dropped 118 = .ok (.iadd, 1) := by decide +kernel
theorem dX8_dropped_119 : decode cX8_dropped 119 = .ok (.istore 6, 2) := by decide +kernel
theorem dX8_dropped_121 : decode cX8_dropped 121 = .ok (.iinc 7 1, 3) := by decide +kernel
theorem dX8_dropped_124 : decode cX8_dropped 124 = .ok (.goto (-68), 3) := by decide +kernel
theorem dX8_dropped_127 : decode cX8_dropped 127 = .ok (.iload 6, 2) := by decide +kernel
theorem dX8_dropped_129 : decode cX8_dropped 129 = .ok (.bipush 10, 2) := by decide +kernel
theorem dX8_dropped_131 : decode cX8_dropped 131 = .ok (.iload 5, 2) := by decide +kernel
theorem dX8_dropped_133 : decode cX8_dropped 133 = .ok (.invokestatic 248, 3) := by decide +kernel
theorem dX8_dropped_136 : decode cX8_dropped 136 = .ok (.iload 4, 2) := by decide +kernel
theorem dX8_dropped_138 : decode cX8_dropped 138 = .ok (.invokestatic 177, 3) := by decide +kernel
theorem dX8_dropped_141 : decode cX8_dropped 141 = .ok (.ireturn, 1) := by decide +kernel
theorem dX8_seed_0 : decode cX8_seed 0 = .ok (.aload_n 0, 1) := by decide +kernel
theorem dX8_seed_1 : decode cX8_seed 1 = .ok (.iconst 0, 1) := by decide +kernel
theorem dX8_seed_2 : decode cX8_seed 2 = .ok (.putfield 59, 3) := by decide +kernel
theorem dX8_seed_5 : decode cX8_seed 5 = .ok (.aload_n 0, 1) := by decide +kernel
theorem dX8_seed_6 : decode cX8_seed 6 = .ok (.getfield 251, 3) := by decide +kernel
theorem dX8_seed_9 : decode cX8_seed 9 = .ok (.lstore_n 3, 1) := by decide +kernel
theorem dX8_seed_10 : decode cX8_seed 10 = .ok (.aload_n 0, 1) := by decide +kernel
theorem dX8_seed_11 : decode cX8_seed 11 = .ok (.lload_n 1, 1) := by decide +kernel
theorem dX8_seed_12 : decode cX8_seed 12 = .ok (.putfield 251, 3) := by decide +kernel
theorem dX8_seed_15 : decode cX8_seed 15 = .ok (.lload_n 3, 1) := by decide +kernel
theorem dX8_seed_16 : decode cX8_seed 16 = .ok (.lreturn, 1) := by decide +kernel
theorem dX8_draw_0 : decode cX8_draw 0 = .ok (.iload_n 1, 1) := by decide +kernel
theorem dX8_draw_1 : decode cX8_draw 1 = .ok (.aload_n 0, 1) := by decide +kernel
theorem dX8_draw_2 : decode cX8_draw 2 = .ok (.getfield 19, 3) := by decide +kernel
theorem dX8_draw_5 : decode cX8_draw 5 = .ok (.iconst 0, 1) := by decide +kernel
theorem dX8_draw_6 : decode cX8_draw 6 = .ok (.iaload, 1) := by decide +kernel
theorem dX8_draw_7 : decode cX8_draw 7 = .ok (.if_icmp .ge 39, 3) := by decide +kernel
theorem dX8_draw_10 : decode cX8_draw 10 = .ok (.iload_n 2, 1) := by decide +kernel
theorem dX8_draw_11 : decode cX8_draw 11 = .ok (.aload_n 0, 1) := by decide +kernel
theorem dX8_draw_12 : decode cX8_draw 12 = .ok (.getfield 19, 3) := by decide +kernel
theorem dX8_draw_15 : decode cX8_draw 15 = .ok (.iconst 0, 1) := by decide +kernel
theorem dX8_draw_16 : decode cX8_draw 16 = .ok (.iaload, 1) := by decide +kernel
theorem dX8_draw_17 : decode cX8_draw 17 = .ok (.if_icmp .ge 29, 3) := by decide +kernel
theorem dX8_draw_20 : decode cX8_draw 20 = .ok (.aload_n 0, 1) := by decide +kernel
theorem dX8_draw_21 : decode cX8_draw 21 = .ok (.getfield 19, 3) := by decide +kernel
theorem dX8_draw_24 : decode cX8_draw 24 = .ok (.iconst 1, 1) := by decide +kernel
theorem dX8_draw_25 : decode cX8_draw 25 = .ok (.bipush 6, 2) := by decide +kernel
theorem dX8_draw_27 : decode cX8_draw 27 = .ok (.iload_n 1, 1) := by decide +kernel
theorem dX8_draw_28 : decode cX8_draw 28 = .ok (.imul, 1) := by decide +kernel
theorem dX8_draw_29 : decode cX8_draw 29 = .ok (.iadd, 1) := by decide +kernel
theorem dX8_draw_30 : decode cX8_draw 30 = .ok (.iload_n 2, 1) := by decide +kernel
theorem dX8_draw_31 : decode cX8_draw 31 = .ok (.iadd, 1) := by decide +kernel
theorem dX8_draw_32 : decode cX8_draw 32 = .ok (.iload_n 3, 1) := by decide +kernel
theorem dX8_draw_33 : decode cX8_draw 33 = .ok (.bipush 10, 2) := by decide +kernel
theorem dX8_draw_35 : decode cX8_draw 35 = .ok (.if_icmp .ne 7, 3) := by decide +kernel
theorem dX8_draw_38 : decode cX8_draw 38 = .ok (.iconst 0, 1) := by decide +kernel
theorem dX8_draw_39 : decode cX8_draw 39 = .ok (.goto 6, 3) := by decide +kernel
theorem dX8_draw_42 : decode cX8_draw 42 = .ok (.iload_n 3, 1) := by decide +kernel
theorem dX8_draw_43 : decode cX8_draw 43 = .ok (.iconst 1, 1) := by decide +kernel
theorem dX8_draw_44 : decode cX8_draw 44 = .ok (.iadd, 1) := by decide +kernel
theorem dX8_draw_45 : decode cX8_draw 45 = .ok (.iastore, 1) := by decide +kernel
theorem dX8_draw_46 : decode cX8_draw 46 = .ok (.return_, 1) := by decide +kernel
theorem dX8_drawn_0 : decode cX8_drawn 0 = .ok (.aload_n 0, 1) := by decide +kernel
theorem dX8_drawn_1 : decode cX8_drawn 1 = .ok (.iconst 0, 1) := by decide +kernel
theorem dX8_drawn_2 : decode cX8_drawn 2 = .ok (.putfield 59, 3) := by decide +kernel
theorem dX8_drawn_5 : decode cX8_drawn 5 = .ok (.iload_n 1, 1) := by decide +kernel
theorem dX8_drawn_6 : decode cX8_drawn 6 = .ok (.i2l, 1) := by decide +kernel
theorem dX8_drawn_7 : decode cX8_drawn 7 = .ok (.lconst 1, 1) := by decide +kernel
theorem dX8_drawn_8 : decode cX8_drawn 8 = .ok (.ldc2_w 181, 3) := by decide +kernel
theorem dX8_drawn_11 : decode cX8_drawn 11 = .ok (.invokestatic 63, 3) := by decide +kernel
theorem dX8_drawn_14 : decode cX8_drawn 14 = .ok (.ifCond .ne 6, 3) := by decide +kernel
theorem dX8_drawn_17 : decode cX8_drawn 17 = .ok (.bipush (-2), 2) := by decide +kernel
theorem dX8_drawn_19 : decode cX8_drawn 19 = .ok (.ireturn, 1) := by decide +kernel
theorem dX8_drawn_20 : decode cX8_drawn 20 = .ok (.aload_n 0, 1) := by decide +kernel
theorem dX8_drawn_21 : decode cX8_drawn 21 = .ok (.invokevirtual 204, 3) := by decide +kernel
theorem dX8_drawn_24 : decode cX8_drawn 24 = .ok (.iconst 0, 1) := by decide +kernel
theorem dX8_drawn_25 : decode cX8_drawn 25 = .ok (.istore_n 2, 1) := by decide +kernel
theorem dX8_drawn_26 : decode cX8_drawn 26 = .ok (.iconst 0, 1) := by decide +kernel
theorem dX8_drawn_27 : decode cX8_drawn 27 = .ok (.istore_n 3, 1) := by decide +kernel
theorem dX8_drawn_28 : decode cX8_drawn 28 = .ok (.iload_n 3, 1) := by decide +kernel
theorem dX8_drawn_29 : decode cX8_drawn 29 = .ok (.iload_n 1, 1) := by decide +kernel
theorem dX8_drawn_30 : decode cX8_drawn 30 = .ok (.if_icmp .ge 91, 3) := by decide +kernel
theorem dX8_drawn_33 : decode cX8_drawn 33 = .ok (.aload_n 0, 1) := by decide +kernel
theorem dX8_drawn_34 : decode cX8_drawn 34 = .ok (.aload_n 0, 1) := by decide +kernel
theorem dX8_drawn_35 : decode cX8_drawn 35 = .ok (.getfield 251, 3) := by decide +kernel
theorem dX8_drawn_38 : decode cX8_drawn 38 = .ok (.ldc2_w 254, 3) := by decide +kernel
theorem dX8_drawn_41 : decode cX8_drawn 41 = .ok (.lmul, 1) := by decide +kernel
theorem dX8_drawn_42 : decode cX8_drawn 42 = .ok (.ldc2_w 256, 3) := by decide +kernel
theorem dX8_drawn_45 : decode cX8_drawn 45 = .ok (.ladd, 1) := by decide +kernel
theorem dX8_drawn_46 : decode cX8_drawn 46 = .ok (.putfield 251, 3) := by decide +kernel
theorem dX8_drawn_49 : decode cX8_drawn 49 = .ok (.aload_n 0, 1) := by decide +kernel
theorem dX8_drawn_50 : decode cX8_drawn 50 = .ok (.getfield 251, 3) := by decide +kernel
theorem dX8_drawn_53 : decode cX8_drawn 53 = .ok (.bipush 33, 2) := by decide +kernel
theorem dX8_drawn_55 : decode cX8_drawn 55 = .ok (.lushr, 1) := by decide +kernel
theorem dX8_drawn_56 : decode cX8_drawn 56 = .ok (.l2i, 1) := by decide +kernel
theorem dX8_drawn_57 : decode cX8_drawn 57 = .ok (.istore 4, 2) := by decide +kernel
theorem dX8_drawn_59 : decode cX8_drawn 59 = .ok (.aload_n 0, 1) := by decide +kernel
theorem dX8_drawn_60 : decode cX8_drawn 60 = .ok (.iload 4, 2) := by decide +kernel
theorem dX8_drawn_62 : decode cX8_drawn 62 = .ok (.bipush 6, 2) := by decide +kernel
theorem dX8_drawn_64 : decode cX8_drawn 64 = .ok (.irem, 1) := by decide +kernel
theorem dX8_drawn_65 : decode cX8_drawn 65 = .ok (.iload 4, 2) := by decide +kernel
theorem dX8_drawn_67 : decode cX8_drawn 67 = .ok (.bipush 8, 2) := by decide +kernel
theorem dX8_drawn_69 : decode cX8_drawn 69 = .ok (.idiv, 1) := by decide +kernel
theorem dX8_drawn_70 : decode cX8_drawn 70 = .ok (.bipush 6, 2) := by decide +kernel
theorem dX8_drawn_72 : decode cX8_drawn 72 = .ok (.irem, 1) := by decide +kernel
theorem dX8_drawn_73 : decode cX8_drawn 73 = .ok (.iload 4, 2) := by decide +kernel
theorem dX8_drawn_75 : decode cX8_drawn 75 = .ok (.bipush 64, 2) := by decide +kernel
theorem dX8_drawn_77 : decode cX8_drawn 77 = .ok (.idiv, 1) := by decide +kernel
theorem dX8_drawn_78 : decode cX8_drawn 78 = .ok (.bipush 11, 2) := by decide +kernel
theorem dX8_drawn_80 : decode cX8_drawn 80 = .ok (.irem, 1) := by decide +kernel
theorem dX8_drawn_81 : decode cX8_drawn 81 = .ok (.invokevirtual 258, 3) := by decide +kernel
theorem dX8_drawn_84 : decode cX8_drawn 84 = .ok (.aload_n 0, 1) := by decide +kernel
theorem dX8_drawn_85 : decode cX8_drawn 85 = .ok (.aload_n 0, 1) := by decide +kernel
theorem dX8_drawn_86 : decode cX8_drawn 86 = .ok (.getfield 19, 3) := by decide +kernel
theorem dX8_drawn_89 : decode cX8_drawn 89 = .ok (.invokevirtual 146, 3) := by decide +kernel
theorem dX8_drawn_92 : decode cX8_drawn 92 = .ok (.iload_n 2, 1) := by decide +kernel
theorem dX8_drawn_93 : decode cX8_drawn 93 = .ok (.aload_n 0, 1) := by decide +kernel
theorem dX8_drawn_94 : decode cX8_drawn 94 = .ok (.getfield 116, 3) := by decide +kernel
theorem dX8_drawn_97 : decode cX8_drawn 97 = .ok (.ifCond .ne 7, 3) := by decide +kernel
theorem dX8_drawn_100 : decode cX8_drawn 100 = .ok (.iconst 0, 1) := by decide +kernel
theorem dX8_drawn_101 : decode cX8_drawn 101 = .ok (.goto 12, 3) := by decide +kernel
theorem dX8_drawn_104 : decode cX8_drawn 104 = .ok (.aload_n 0, 1) := by decide +kernel
theorem dX8_drawn_105 : decode cX8_drawn 105 = .ok (.getfield 119, 3) := by decide +kernel
theorem dX8_drawn_108 : decode cX8_drawn 108 = .ok (.aload_n 0, 1) := by decide +kernel
theorem dX8_drawn_109 : decode cX8_drawn 109 = .ok (.getfield 116, 3) := by decide +kernel
theorem dX8_drawn_112 : decode cX8_drawn 112 = .ok (.idiv, 1) := by decide +kernel
theorem dX8_drawn_113 : decode cX8_drawn 113 = .ok (.iadd, 1) := by decide +kernel
theorem dX8_drawn_114 : decode cX8_drawn 114 = .ok (.istore_n 2, 1) := by decide +kernel
theorem dX8_drawn_115 : decode cX8_drawn 115 = .ok (.iinc 3 1, 3) := by decide +kernel
theorem dX8_drawn_118 : decode cX8_drawn 118 = .ok (.goto (-90), 3) := by decide +kernel
theorem dX8_drawn_121 : decode cX8_drawn 121 = .ok (.iload_n 2, 1) := by decide +kernel
theorem dX8_drawn_122 : decode cX8_drawn 122 = .ok (.ireturn, 1) := by decide +kernel
theorem dX8_keep_0 : decode cX8_keep 0 = .ok (.aload_n 0, 1) := by decide +kernel
theorem dX8_keep_1 : decode cX8_keep 1 = .ok (.iconst 0, 1) := by decide +kernel
theorem dX8_keep_2 : decode cX8_keep 2 = .ok (.putfield 59, 3) := by decide +kernel
theorem dX8_keep_5 : decode cX8_keep 5 = .ok (.iload_n 1, 1) := by decide +kernel
theorem dX8_keep_6 : decode cX8_keep 6 = .ok (.i2l, 1) := by decide +kernel
theorem dX8_keep_7 : decode cX8_keep 7 = .ok (.lconst 0, 1) := by decide +kernel
theorem dX8_keep_8 : decode cX8_keep 8 = .ok (.lconst 1, 1) := by decide +kernel
theorem dX8_keep_9 : decode cX8_keep 9 = .ok (.invokestatic 63, 3) := by decide +kernel
theorem dX8_keep_12 : decode cX8_keep 12 = .ok (.ifCond .ne 5, 3) := by decide +kernel
theorem dX8_keep_15 : decode cX8_keep 15 = .ok (.iconst (-1), 1) := by decide +kernel
theorem dX8_keep_16 : decode cX8_keep 16 = .ok (.ireturn, 1) := by decide +kernel
theorem dX8_keep_17 : decode cX8_keep 17 = .ok (.aload_n 0, 1) := by decide +kernel
theorem dX8_keep_18 : decode cX8_keep 18 = .ok (.getfield 28, 3) := by decide +kernel
theorem dX8_keep_21 : decode cX8_keep 21 = .ok (.iload_n 1, 1) := by decide +kernel
theorem dX8_keep_22 : decode cX8_keep 22 = .ok (.iconst 1, 1) := by decide +kernel
theorem dX8_keep_23 : decode cX8_keep 23 = .ok (.bastore, 1) := by decide +kernel
theorem dX8_keep_24 : decode cX8_keep 24 = .ok (.iconst 0, 1) := by decide +kernel
theorem dX8_keep_25 : decode cX8_keep 25 = .ok (.istore_n 2, 1) := by decide +kernel
theorem dX8_keep_26 : decode cX8_keep 26 = .ok (.iload_n 2, 1) := by decide +kernel
theorem dX8_keep_27 : decode cX8_keep 27 = .ok (.bipush 37, 2) := by decide +kernel
theorem dX8_keep_29 : decode cX8_keep 29 = .ok (.if_icmp .ge 26, 3) := by decide +kernel
theorem dX8_keep_32 : decode cX8_keep 32 = .ok (.aload_n 0, 1) := by decide +kernel
theorem dX8_keep_33 : decode cX8_keep 33 = .ok (.getfield 25, 3) := by decide +kernel
theorem dX8_keep_36 : decode cX8_keep 36 = .ok (.bipush 37, 2) := by decide +kernel
theorem dX8_keep_38 : decode cX8_keep 38 = .ok (.iload_n 1, 1) := by decide +kernel
theorem dX8_keep_39 : decode cX8_keep 39 = .ok (.imul, 1) := by decide +kernel
theorem dX8_keep_40 : decode cX8_keep 40 = .ok (.iload_n 2, 1) := by decide +kernel
theorem dX8_keep_41 : decode cX8_keep 41 = .ok (.iadd, 1) := by decide +kernel
theorem dX8_keep_42 : decode cX8_keep 42 = .ok (.aload_n 0, 1) := by decide +kernel
theorem dX8_keep_43 : decode cX8_keep 43 = .ok (.getfield 16, 3) := by decide +kernel
theorem dX8_keep_46 : decode cX8_keep 46 = .ok (.iload_n 2, 1) := by decide +kernel
theorem dX8_keep_47 : decode cX8_keep 47 = .ok (.iaload, 1) := by decide +kernel
theorem dX8_keep_48 : decode cX8_keep 48 = .ok (.iastore, 1) := by decide +kernel
theorem dX8_keep_49 : decode cX8_keep 49 = .ok (.iinc 2 1, 3) := by decide +kernel
theorem dX8_keep_52 : decode cX8_keep 52 = .ok (.goto (-26), 3) := by decide +kernel
theorem dX8_keep_55 : decode cX8_keep 55 = .ok (.aload_n 0, 1) := by decide +kernel
theorem dX8_keep_56 : decode cX8_keep 56 = .ok (.getfield 16, 3) := by decide +kernel
theorem dX8_keep_59 : decode cX8_keep 59 = .ok (.invokestatic 105, 3) := by decide +kernel
theorem dX8_keep_62 : decode cX8_keep 62 = .ok (.ireturn, 1) := by decide +kernel
theorem dX8_again_0 : decode cX8_again 0 = .ok (.aload_n 0, 1) := by decide +kernel
theorem dX8_again_1 : decode cX8_again 1 = .ok (.iconst 0, 1) := by decide +kernel
theorem dX8_again_2 : decode cX8_again 2 = .ok (.putfield 59, 3) := by decide +kernel
theorem dX8_again_5 : decode cX8_again 5 = .ok (.iload_n 1, 1) := by decide +kernel
theorem dX8_again_6 : decode cX8_again 6 = .ok (.i2l, 1) := by decide +kernel
theorem dX8_again_7 : decode cX8_again 7 = .ok (.lconst 0, 1) := by decide +kernel
theorem dX8_again_8 : decode cX8_again 8 = .ok (.lconst 1, 1) := by decide +kernel
theorem dX8_again_9 : decode cX8_again 9 = .ok (.invokestatic 63, 3) := by decide +kernel
theorem dX8_again_12 : decode cX8_again 12 = .ok (.ifCond .ne 5, 3) := by decide +kernel
theorem dX8_again_15 : decode cX8_again 15 = .ok (.iconst (-1), 1) := by decide +kernel
theorem dX8_again_16 : decode cX8_again 16 = .ok (.ireturn, 1) := by decide +kernel
theorem dX8_again_17 : decode cX8_again 17 = .ok (.aload_n 0, 1) := by decide +kernel
theorem dX8_again_18 : decode cX8_again 18 = .ok (.getfield 28, 3) := by decide +kernel
theorem dX8_again_21 : decode cX8_again 21 = .ok (.iload_n 1, 1) := by decide +kernel
theorem dX8_again_22 : decode cX8_again 22 = .ok (.baload, 1) := by decide +kernel
theorem dX8_again_23 : decode cX8_again 23 = .ok (.ifCond .ne 6, 3) := by decide +kernel
theorem dX8_again_26 : decode cX8_again 26 = .ok (.bipush (-3), 2) := by decide +kernel
theorem dX8_again_28 : decode cX8_again 28 = .ok (.ireturn, 1) := by decide +kernel
theorem dX8_again_29 : decode cX8_again 29 = .ok (.iconst 0, 1) := by decide +kernel
theorem dX8_again_30 : decode cX8_again 30 = .ok (.istore_n 2, 1) := by decide +kernel
theorem dX8_again_31 : decode cX8_again 31 = .ok (.iload_n 2, 1) := by decide +kernel
theorem dX8_again_32 : decode cX8_again 32 = .ok (.bipush 37, 2) := by decide +kernel
theorem dX8_again_34 : decode cX8_again 34 = .ok (.if_icmp .ge 26, 3) := by decide +kernel
theorem dX8_again_37 : decode cX8_again 37 = .ok (.aload_n 0, 1) := by decide +kernel
theorem dX8_again_38 : decode cX8_again 38 = .ok (.getfield 16, 3) := by decide +kernel
theorem dX8_again_41 : decode cX8_again 41 = .ok (.iload_n 2, 1) := by decide +kernel
theorem dX8_again_42 : decode cX8_again 42 = .ok (.aload_n 0, 1) := by decide +kernel
theorem dX8_again_43 : decode cX8_again 43 = .ok (.getfield 25, 3) := by decide +kernel
theorem dX8_again_46 : decode cX8_again 46 = .ok (.bipush 37, 2) := by decide +kernel
theorem dX8_again_48 : decode cX8_again 48 = .ok (.iload_n 1, 1) := by decide +kernel
theorem dX8_again_49 : decode cX8_again 49 = .ok (.imul, 1) := by decide +kernel
theorem dX8_again_50 : decode cX8_again 50 = .ok (.iload_n 2, 1) := by decide +kernel
theorem dX8_again_51 : decode cX8_again 51 = .ok (.iadd, 1) := by decide +kernel
theorem dX8_again_52 : decode cX8_again 52 = .ok (.iaload, 1) := by decide +kernel
theorem dX8_again_53 : decode cX8_again 53 = .ok (.iastore, 1) := by decide +kernel
theorem dX8_again_54 : decode cX8_again 54 = .ok (.iinc 2 1, 3) := by decide +kernel
theorem dX8_again_57 : decode cX8_again 57 = .ok (.goto (-26), 3) := by decide +kernel
theorem dX8_again_60 : decode cX8_again 60 = .ok (.aload_n 0, 1) := by decide +kernel
theorem dX8_again_61 : decode cX8_again 61 = .ok (.iconst 0, 1) := by decide +kernel
theorem dX8_again_62 : decode cX8_again 62 = .ok (.putfield 102, 3) := by decide +kernel
theorem dX8_again_65 : decode cX8_again 65 = .ok (.aload_n 0, 1) := by decide +kernel
theorem dX8_again_66 : decode cX8_again 66 = .ok (.getfield 16, 3) := by decide +kernel
theorem dX8_again_69 : decode cX8_again 69 = .ok (.invokestatic 105, 3) := by decide +kernel
theorem dX8_again_72 : decode cX8_again 72 = .ok (.ireturn, 1) := by decide +kernel
theorem dJ6_bitCount_0f7a4_0 : decode cJ6_bitCount_0f7a4 0 = .ok (.iload_n 0, 1) := by decide +kernel
theorem dJ6_bitCount_0f7a4_1 : decode cJ6_bitCount_0f7a4 1 = .ok (.iload_n 0, 1) := by decide +kernel
theorem dJ6_bitCount_0f7a4_2 : decode cJ6_bitCount_0f7a4 2 = .ok (.iconst 1, 1) := by decide +kernel
theorem dJ6_bitCount_0f7a4_3 : decode cJ6_bitCount_0f7a4 3 = .ok (.iushr, 1) := by decide +kernel
theorem dJ6_bitCount_0f7a4_4 : decode cJ6_bitCount_0f7a4 4 = .ok (.ldc_w 265, 3) := by decide +kernel
theorem dJ6_bitCount_0f7a4_7 : decode cJ6_bitCount_0f7a4 7 = .ok (.iand, 1) := by decide +kernel
theorem dJ6_bitCount_0f7a4_8 : decode cJ6_bitCount_0f7a4 8 = .ok (.isub, 1) := by decide +kernel
theorem dJ6_bitCount_0f7a4_9 : decode cJ6_bitCount_0f7a4 9 = .ok (.istore_n 0, 1) := by decide +kernel
theorem dJ6_bitCount_0f7a4_10 : decode cJ6_bitCount_0f7a4 10 = .ok (.iload_n 0, 1) := by decide +kernel
theorem dJ6_bitCount_0f7a4_11 : decode cJ6_bitCount_0f7a4 11 = .ok (.ldc_w 266, 3) := by decide +kernel
theorem dJ6_bitCount_0f7a4_14 : decode cJ6_bitCount_0f7a4 14 = .ok (.iand, 1) := by decide +kernel
theorem dJ6_bitCount_0f7a4_15 : decode cJ6_bitCount_0f7a4 15 = .ok (.iload_n 0, 1) := by decide +kernel
theorem dJ6_bitCount_0f7a4_16 : decode cJ6_bitCount_0f7a4 16 = .ok (.iconst 2, 1) := by decide +kernel
theorem dJ6_bitCount_0f7a4_17 : decode cJ6_bitCount_0f7a4 17 = .ok (.iushr, 1) := by decide +kernel
theorem dJ6_bitCount_0f7a4_18 : decode cJ6_bitCount_0f7a4 18 = .ok (.ldc_w 266, 3) := by decide +kernel
theorem dJ6_bitCount_0f7a4_21 : decode cJ6_bitCount_0f7a4 21 = .ok (.iand, 1) := by decide +kernel
theorem dJ6_bitCount_0f7a4_22 : decode cJ6_bitCount_0f7a4 22 = .ok (.iadd, 1) := by decide +kernel
theorem dJ6_bitCount_0f7a4_23 : decode cJ6_bitCount_0f7a4 23 = .ok (.istore_n 0, 1) := by decide +kernel
theorem dJ6_bitCount_0f7a4_24 : decode cJ6_bitCount_0f7a4 24 = .ok (.iload_n 0, 1) := by decide +kernel
theorem dJ6_bitCount_0f7a4_25 : decode cJ6_bitCount_0f7a4 25 = .ok (.iload_n 0, 1) := by decide +kernel
theorem dJ6_bitCount_0f7a4_26 : decode cJ6_bitCount_0f7a4 26 = .ok (.iconst 4, 1) := by decide +kernel
theorem dJ6_bitCount_0f7a4_27 : decode cJ6_bitCount_0f7a4 27 = .ok (.iushr, 1) := by decide +kernel
theorem dJ6_bitCount_0f7a4_28 : decode cJ6_bitCount_0f7a4 28 = .ok (.iadd, 1) := by decide +kernel
theorem dJ6_bitCount_0f7a4_29 : decode cJ6_bitCount_0f7a4 29 = .ok (.ldc_w 267, 3) := by decide +kernel
theorem dJ6_bitCount_0f7a4_32 : decode cJ6_bitCount_0f7a4 32 = .ok (.iand, 1) := by decide +kernel
theorem dJ6_bitCount_0f7a4_33 : decode cJ6_bitCount_0f7a4 33 = .ok (.istore_n 0, 1) := by decide +kernel
theorem dJ6_bitCount_0f7a4_34 : decode cJ6_bitCount_0f7a4 34 = .ok (.iload_n 0, 1) := by decide +kernel
theorem dJ6_bitCount_0f7a4_35 : decode cJ6_bitCount_0f7a4 35 = .ok (.iload_n 0, 1) := by decide +kernel
theorem dJ6_bitCount_0f7a4_36 : decode cJ6_bitCount_0f7a4 36 = .ok (.bipush 8, 2) := by decide +kernel
theorem dJ6_bitCount_0f7a4_38 : decode cJ6_bitCount_0f7a4 38 = .ok (.iushr, 1) := by decide +kernel
theorem dJ6_bitCount_0f7a4_39 : decode cJ6_bitCount_0f7a4 39 = .ok (.iadd, 1) := by decide +kernel
theorem dJ6_bitCount_0f7a4_40 : decode cJ6_bitCount_0f7a4 40 = .ok (.istore_n 0, 1) := by decide +kernel
theorem dJ6_bitCount_0f7a4_41 : decode cJ6_bitCount_0f7a4 41 = .ok (.iload_n 0, 1) := by decide +kernel
theorem dJ6_bitCount_0f7a4_42 : decode cJ6_bitCount_0f7a4 42 = .ok (.iload_n 0, 1) := by decide +kernel
theorem dJ6_bitCount_0f7a4_43 : decode cJ6_bitCount_0f7a4 43 = .ok (.bipush 16, 2) := by decide +kernel
theorem dJ6_bitCount_0f7a4_45 : decode cJ6_bitCount_0f7a4 45 = .ok (.iushr, 1) := by decide +kernel
theorem dJ6_bitCount_0f7a4_46 : decode cJ6_bitCount_0f7a4 46 = .ok (.iadd, 1) := by decide +kernel
theorem dJ6_bitCount_0f7a4_47 : decode cJ6_bitCount_0f7a4 47 = .ok (.istore_n 0, 1) := by decide +kernel
theorem dJ6_bitCount_0f7a4_48 : decode cJ6_bitCount_0f7a4 48 = .ok (.iload_n 0, 1) := by decide +kernel
theorem dJ6_bitCount_0f7a4_49 : decode cJ6_bitCount_0f7a4 49 = .ok (.bipush 63, 2) := by decide +kernel
theorem dJ6_bitCount_0f7a4_51 : decode cJ6_bitCount_0f7a4 51 = .ok (.iand, 1) := by decide +kernel
theorem dJ6_bitCount_0f7a4_52 : decode cJ6_bitCount_0f7a4 52 = .ok (.ireturn, 1) := by decide +kernel
theorem dJ9_max_7cf53_0 : decode cJ9_max_7cf53 0 = .ok (.iload_n 0, 1) := by decide +kernel
theorem dJ9_max_7cf53_1 : decode cJ9_max_7cf53 1 = .ok (.iload_n 1, 1) := by decide +kernel
theorem dJ9_max_7cf53_2 : decode cJ9_max_7cf53 2 = .ok (.if_icmp .lt 7, 3) := by decide +kernel
theorem dJ9_max_7cf53_5 : decode cJ9_max_7cf53 5 = .ok (.iload_n 0, 1) := by decide +kernel
theorem dJ9_max_7cf53_6 : decode cJ9_max_7cf53 6 = .ok (.goto 4, 3) := by decide +kernel
theorem dJ9_max_7cf53_9 : decode cJ9_max_7cf53 9 = .ok (.iload_n 1, 1) := by decide +kernel
theorem dJ9_max_7cf53_10 : decode cJ9_max_7cf53 10 = .ok (.ireturn, 1) := by decide +kernel
theorem dJ9_min_7cf53_0 : decode cJ9_min_7cf53 0 = .ok (.iload_n 0, 1) := by decide +kernel
theorem dJ9_min_7cf53_1 : decode cJ9_min_7cf53 1 = .ok (.iload_n 1, 1) := by decide +kernel
theorem dJ9_min_7cf53_2 : decode cJ9_min_7cf53 2 = .ok (.if_icmp .gt 7, 3) := by decide +kernel
theorem dJ9_min_7cf53_5 : decode cJ9_min_7cf53 5 = .ok (.iload_n 0, 1) := by decide +kernel
theorem dJ9_min_7cf53_6 : decode cJ9_min_7cf53 6 = .ok (.goto 4, 3) := by decide +kernel
theorem dJ9_min_7cf53_9 : decode cJ9_min_7cf53 9 = .ok (.iload_n 1, 1) := by decide +kernel
theorem dJ9_min_7cf53_10 : decode cJ9_min_7cf53 10 = .ok (.ireturn, 1) := by decide +kernel
theorem dJ7_fill_53178_0 : decode cJ7_fill_53178 0 = .ok (.iconst 0, 1) := by decide +kernel
theorem dJ7_fill_53178_1 : decode cJ7_fill_53178 1 = .ok (.istore_n 2, 1) := by decide +kernel
theorem dJ7_fill_53178_2 : decode cJ7_fill_53178 2 = .ok (.aload_n 0, 1) := by decide +kernel
theorem dJ7_fill_53178_3 : decode cJ7_fill_53178 3 = .ok (.arraylength, 1) := by decide +kernel
theorem dJ7_fill_53178_4 : decode cJ7_fill_53178 4 = .ok (.istore_n 3, 1) := by decide +kernel
theorem dJ7_fill_53178_5 : decode cJ7_fill_53178 5 = .ok (.iload_n 2, 1) := by decide +kernel
theorem dJ7_fill_53178_6 : decode cJ7_fill_53178 6 = .ok (.iload_n 3, 1) := by decide +kernel
theorem dJ7_fill_53178_7 : decode cJ7_fill_53178 7 = .ok (.if_icmp .ge 13, 3) := by decide +kernel
theorem dJ7_fill_53178_10 : decode cJ7_fill_53178 10 = .ok (.aload_n 0, 1) := by decide +kernel
theorem dJ7_fill_53178_11 : decode cJ7_fill_53178 11 = .ok (.iload_n 2, 1) := by decide +kernel
theorem dJ7_fill_53178_12 : decode cJ7_fill_53178 12 = .ok (.iload_n 1, 1) := by decide +kernel
theorem dJ7_fill_53178_13 : decode cJ7_fill_53178 13 = .ok (.iastore, 1) := by decide +kernel
theorem dJ7_fill_53178_14 : decode cJ7_fill_53178 14 = .ok (.iinc 2 1, 3) := by decide +kernel
theorem dJ7_fill_53178_17 : decode cJ7_fill_53178 17 = .ok (.goto (-12), 3) := by decide +kernel
theorem dJ7_fill_53178_20 : decode cJ7_fill_53178 20 = .ok (.return_, 1) := by decide +kernel
theorem dL_law_0 : decode cL_law 0 = .ok (.new 7, 3) := by decide +kernel
theorem dL_law_3 : decode cL_law 3 = .ok (.dup, 1) := by decide +kernel
theorem dL_law_4 : decode cL_law 4 = .ok (.invokespecial 9, 3) := by decide +kernel
theorem dL_law_7 : decode cL_law 7 = .ok (.astore_n 1, 1) := by decide +kernel
theorem dL_law_8 : decode cL_law 8 = .ok (.new 10, 3) := by decide +kernel
theorem dL_law_11 : decode cL_law 11 = .ok (.dup, 1) := by decide +kernel
theorem dL_law_12 : decode cL_law 12 = .ok (.invokespecial 12, 3) := by decide +kernel
theorem dL_law_15 : decode cL_law 15 = .ok (.astore_n 2, 1) := by decide +kernel
theorem dL_law_16 : decode cL_law 16 = .ok (.iconst 0, 1) := by decide +kernel
theorem dL_law_17 : decode cL_law 17 = .ok (.istore_n 3, 1) := by decide +kernel
theorem dL_law_18 : decode cL_law 18 = .ok (.iload_n 3, 1) := by decide +kernel
theorem dL_law_19 : decode cL_law 19 = .ok (.aload_n 0, 1) := by decide +kernel
theorem dL_law_20 : decode cL_law 20 = .ok (.arraylength, 1) := by decide +kernel
theorem dL_law_21 : decode cL_law 21 = .ok (.bipush 6, 2) := by decide +kernel
theorem dL_law_23 : decode cL_law 23 = .ok (.isub, 1) := by decide +kernel
theorem dL_law_24 : decode cL_law 24 = .ok (.if_icmp .gt 1048, 3) := by decide +kernel
theorem dL_law_27 : decode cL_law 27 = .ok (.aload_n 0, 1) := by decide +kernel
theorem dL_law_28 : decode cL_law 28 = .ok (.iload_n 3, 1) := by decide +kernel
theorem dL_law_29 : decode cL_law 29 = .ok (.iaload, 1) := by decide +kernel
theorem dL_law_30 : decode cL_law 30 = .ok (.bipush 31, 2) := by decide +kernel
theorem dL_law_32 : decode cL_law 32 = .ok (.iand, 1) := by decide +kernel
theorem dL_law_33 : decode cL_law 33 = .ok (.tableswitch 1033 0 26 #[123, 146, 159, 172, 185, 208, 241, 284, 317, 360, 373, 412, 445, 478, 521, 584, 627, 650, 713, 762, 805, 818, 841, 910, 964, 987, 1010], 123) := by decide +kernel
theorem dL_law_156 : decode cL_law 156 = .ok (.aload_n 1, 1) := by decide +kernel
theorem dL_law_157 : decode cL_law 157 = .ok (.aload_n 0, 1) := by decide +kernel
theorem dL_law_158 : decode cL_law 158 = .ok (.iload_n 3, 1) := by decide +kernel
theorem dL_law_159 : decode cL_law 159 = .ok (.iconst 1, 1) := by decide +kernel
theorem dL_law_160 : decode cL_law 160 = .ok (.iadd, 1) := by decide +kernel
theorem dL_law_161 : decode cL_law 161 = .ok (.iaload, 1) := by decide +kernel
theorem dL_law_162 : decode cL_law 162 = .ok (.invokevirtual 13, 3) := by decide +kernel
theorem dL_law_165 : decode cL_law 165 = .ok (.aload_n 2, 1) := by decide +kernel
theorem dL_law_166 : decode cL_law 166 = .ok (.aload_n 0, 1) := by decide +kernel
theorem dL_law_167 : decode cL_law 167 = .ok (.iload_n 3, 1) := by decide +kernel
theorem dL_law_168 : decode cL_law 168 = .ok (.iconst 1, 1) := by decide +kernel
theorem dL_law_169 : decode cL_law 169 = .ok (.iadd, 1) := by decide +kernel
theorem dL_law_170 : decode cL_law 170 = .ok (.iaload, 1) := by decide +kernel
theorem dL_law_171 : decode cL_law 171 = .ok (.invokevirtual 17, 3) := by decide +kernel
theorem dL_law_174 : decode cL_law 174 = .ok (.if_icmp .eq 892, 3) := by decide +kernel
theorem dL_law_177 : decode cL_law 177 = .ok (.iconst 0, 1) := by decide +kernel
theorem dL_law_178 : decode cL_law 178 = .ok (.ireturn, 1) := by decide +kernel
theorem dL_law_179 : decode cL_law 179 = .ok (.aload_n 1, 1) := by decide +kernel
theorem dL_law_180 : decode cL_law 180 = .ok (.invokevirtual 18, 3) := by decide +kernel
theorem dL_law_183 : decode cL_law 183 = .ok (.aload_n 2, 1) := by decide +kernel
theorem dL_law_184 : decode cL_law 184 = .ok (.invokevirtual 22, 3) := by decide +kernel
theorem dL_law_187 : decode cL_law 187 = .ok (.if_icmp .eq 879, 3) := by decide +kernel
theorem dL_law_190 : decode cL_law 190 = .ok (.iconst 0, 1) := by decide +kernel
theorem dL_law_191 : decode cL_law 191 = .ok (.ireturn, 1) := by decide +kernel
theorem dL_law_192 : decode cL_law 192 = .ok (.aload_n 1, 1) := by decide +kernel
theorem dL_law_193 : decode cL_law 193 = .ok (.invokevirtual 23, 3) := by decide +kernel
theorem dL_law_196 : decode cL_law 196 = .ok (.aload_n 2, 1) := by decide +kernel
theorem dL_law_197 : decode cL_law 197 = .ok (.invokevirtual 26, 3) := by decide +kernel
theorem dL_law_200 : decode cL_law 200 = .ok (.if_icmp .eq 866, 3) := by decide +kernel
theorem dL_law_203 : decode cL_law 203 = .ok (.iconst 0, 1) := by decide +kernel
theorem dL_law_204 : decode cL_law 204 = .ok (.ireturn, 1) := by decide +kernel
theorem dL_law_205 : decode cL_law 205 = .ok (.aload_n 1, 1) := by decide +kernel
theorem dL_law_206 : decode cL_law 206 = .ok (.invokevirtual 27, 3) := by decide +kernel
theorem dL_law_209 : decode cL_law 209 = .ok (.aload_n 2, 1) := by decide +kernel
theorem dL_law_210 : decode cL_law 210 = .ok (.invokevirtual 30, 3) := by decide +kernel
theorem dL_law_213 : decode cL_law 213 = .ok (.if_icmp .eq 853, 3) := by decide +kernel
theorem dL_law_216 : decode cL_law 216 = .ok (.iconst 0, 1) := by decide +kernel
theorem dL_law_217 : decode cL_law 217 = .ok (.ireturn, 1) := by decide +kernel
theorem dL_law_218 : decode cL_law 218 = .ok (.aload_n 1, 1) := by decide +kernel
theorem dL_law_219 : decode cL_law 219 = .ok (.aload_n 0, 1) := by decide +kernel
theorem dL_law_220 : decode cL_law 220 = .ok (.iload_n 3, 1) := by decide +kernel
theorem dL_law_221 : decode cL_law 221 = .ok (.iconst 1, 1) := by decide +kernel
theorem dL_law_222 : decode cL_law 222 = .ok (.iadd, 1) := by decide +kernel
theorem dL_law_223 : decode cL_law 223 = .ok (.iaload, 1) := by decide +kernel
theorem dL_law_224 : decode cL_law 224 = .ok (.invokevirtual 31, 3) := by decide +kernel
theorem dL_law_227 : decode cL_law 227 = .ok (.aload_n 2, 1) := by decide +kernel
theorem dL_law_228 : decode cL_law 228 = .ok (.aload_n 0, 1) := by decide +kernel
theorem dL_law_229 : decode cL_law 229 = .ok (.iload_n 3, 1) := by decide +kernel
theorem dL_law_230 : decode cL_law 230 = .ok (.iconst 1, 1) := by decide +kernel
theorem dL_law_231 : decode cL_law 231 = .ok (.iadd, 1) := by decide +kernel
theorem dL_law_232 : decode cL_law 232 = .ok (.iaload, 1) := by decide +kernel
theorem dL_law_233 : decode cL_law 233 = .ok (.invokevirtual 34, 3) := by decide +kernel
theorem dL_law_236 : decode cL_law 236 = .ok (.if_icmp .eq 830, 3) := by decide +kernel
theorem dL_law_239 : decode cL_law 239 = .ok (.iconst 0, 1) := by decide +kernel
theorem dL_law_240 : decode cL_law 240 = .ok (.ireturn, 1) := by decide +kernel
theorem dL_law_241 : decode cL_law 241 = .ok (.aload_n 1, 1) := by decide +kernel
theorem dL_law_242 : decode cL_law 242 = .ok (.aload_n 0, 1) := by decide +kernel
theorem dL_law_243 : decode cL_law 243 = .ok (.iload_n 3, 1) := by decide +kernel
theorem dL_law_244 : decode cL_law 244 = .ok (.iconst 1, 1) := by decide +kernel
theorem dL_law_245 : decode cL_law 245 = .ok (.iadd, 1) := by decide +kernel
theorem dL_law_246 : decode cL_law 246 = .ok (.iaload, 1) := by decide +kernel
theorem dL_law_247 : decode cL_law 247 = .ok (.aload_n 0, 1) := by decide +kernel
theorem dL_law_248 : decode cL_law 248 = .ok (.iload_n 3, 1) := by decide +kernel
theorem dL_law_249 : decode cL_law 249 = .ok (.iconst 2, 1) := by decide +kernel
theorem dL_law_250 : decode cL_law 250 = .ok (.iadd, 1) := by decide +kernel
theorem dL_law_251 : decode cL_law 251 = .ok (.iaload, 1) := by decide +kernel
theorem dL_law_252 : decode cL_law 252 = .ok (.invokevirtual 35, 3) := by decide +kernel
theorem dL_law_255 : decode cL_law 255 = .ok (.aload_n 2, 1) := by decide +kernel
theorem dL_law_256 : decode cL_law 256 = .ok (.aload_n 0, 1) := by decide +kernel
theorem dL_law_257 : decode cL_law 257 = .ok (.iload_n 3, 1) := by decide +kernel
theorem dL_law_258 : decode cL_law 258 = .ok (.iconst 1, 1) := by decide +kernel
theorem dL_law_259 : decode cL_law 259 = .ok (.iadd, 1) := by decide +kernel
theorem dL_law_260 : decode cL_law 260 = .ok (.iaload, 1) := by decide +kernel
theorem dL_law_261 : decode cL_law 261 = .ok (.aload_n 0, 1) := by decide +kernel
theorem dL_law_262 : decode cL_law 262 = .ok (.iload_n 3, 1) := by decide +kernel
theorem dL_law_263 : decode cL_law 263 = .ok (.iconst 2, 1) := by decide +kernel
theorem dL_law_264 : decode cL_law 264 = .ok (.iadd, 1) := by decide +kernel
theorem dL_law_265 : decode cL_law 265 = .ok (.iaload, 1) := by decide +kernel
theorem dL_law_266 : decode cL_law 266 = .ok (.invokevirtual 39, 3) := by decide +kernel
theorem dL_law_269 : decode cL_law 269 = .ok (.if_icmp .eq 797, 3) := by decide +kernel
theorem dL_law_272 : decode cL_law 272 = .ok (.iconst 0, 1) := by decide +kernel
theorem dL_law_273 : decode cL_law 273 = .ok (.ireturn, 1) := by decide +kernel
theorem dL_law_274 : decode cL_law 274 = .ok (.aload_n 1, 1) := by decide +kernel
theorem dL_law_275 : decode cL_law 275 = .ok (.aload_n 0, 1) := by decide +kernel
theorem dL_law_276 : decode cL_law 276 = .ok (.iload_n 3, 1) := by decide +kernel
theorem dL_law_277 : decode cL_law 277 = .ok (.iconst 1, 1) := by decide +kernel
theorem dL_law_278 : decode cL_law 278 = .ok (.iadd, 1) := by decide +kernel
theorem dL_law_279 : decode cL_law 279 = .ok (.iaload, 1) := by decide +kernel
theorem dL_law_280 : decode cL_law 280 = .ok (.aload_n 0, 1) := by decide +kernel
theorem dL_law_281 : decode cL_law 281 = .ok (.iload_n 3, 1) := by decide +kernel
theorem dL_law_282 : decode cL_law 282 = .ok (.iconst 2, 1) := by decide +kernel
theorem dL_law_283 : decode cL_law 283 = .ok (.iadd, 1) := by decide +kernel
theorem dL_law_284 : decode cL_law 284 = .ok (.iaload, 1) := by decide +kernel
theorem dL_law_285 : decode cL_law 285 = .ok (.aload_n 0, 1) := by decide +kernel
theorem dL_law_286 : decode cL_law 286 = .ok (.iload_n 3, 1) := by decide +kernel
theorem dL_law_287 : decode cL_law 287 = .ok (.iconst 3, 1) := by decide +kernel
theorem dL_law_288 : decode cL_law 288 = .ok (.iadd, 1) := by decide +kernel
theorem dL_law_289 : decode cL_law 289 = .ok (.iaload, 1) := by decide +kernel
theorem dL_law_290 : decode cL_law 290 = .ok (.invokevirtual 40, 3) := by decide +kernel
theorem dL_law_293 : decode cL_law 293 = .ok (.aload_n 2, 1) := by decide +kernel
theorem dL_law_294 : decode cL_law 294 = .ok (.aload_n 0, 1) := by decide +kernel
theorem dL_law_295 : decode cL_law 295 = .ok (.iload_n 3, 1) := by decide +kernel
theorem dL_law_296 : decode cL_law 296 = .ok (.iconst 1, 1) := by decide +kernel
theorem dL_law_297 : decode cL_law 297 = .ok (.iadd, 1) := by decide +kernel
theorem dL_law_298 : decode cL_law 298 = .ok (.iaload, 1) := by decide +kernel
theorem dL_law_299 : decode cL_law 299 = .ok (.aload_n 0, 1) := by decide +kernel
theorem dL_law_300 : decode cL_law 300 = .ok (.iload_n 3, 1) := by decide +kernel
theorem dL_law_301 : decode cL_law 301 = .ok (.iconst 2, 1) := by decide +kernel
theorem dL_law_302 : decode cL_law 302 = .ok (.iadd, 1) := by decide +kernel
theorem dL_law_303 : decode cL_law 303 = .ok (.iaload, 1) := by decide +kernel
theorem dL_law_304 : decode cL_law 304 = .ok (.aload_n 0, 1) := by decide +kernel
theorem dL_law_305 : decode cL_law 305 = .ok (.iload_n 3, 1) := by decide +kernel
theorem dL_law_306 : decode cL_law 306 = .ok (.iconst 3, 1) := by decide +kernel
theorem dL_law_307 : decode cL_law 307 = .ok (.iadd, 1) := by decide +kernel
theorem dL_law_308 : decode cL_law 308 = .ok (.iaload, 1) := by decide +kernel
theorem dL_law_309 : decode cL_law 309 = .ok (.invokevirtual 44, 3) := by decide +kernel
theorem dL_law_312 : decode cL_law 312 = .ok (.if_icmp .eq 754, 3) := by decide +kernel
theorem dL_law_315 : decode cL_law 315 = .ok (.iconst 0, 1) := by decide +kernel
theorem dL_law_316 : decode cL_law 316 = .ok (.ireturn, 1) := by decide +kernel
theorem dL_law_317 : decode cL_law 317 = .ok (.aload_n 1, 1) := by decide +kernel
theorem dL_law_318 : decode cL_law 318 = .ok (.aload_n 0, 1) := by decide +kernel
theorem dL_law_319 : decode cL_law 319 = .ok (.iload_n 3, 1) := by decide +kernel
theorem dL_law_320 : decode cL_law 320 = .ok (.iconst 1, 1) := by decide +kernel
theorem dL_law_321 : decode cL_law 321 = .ok (.iadd, 1) := by decide +kernel
theorem dL_law_322 : decode cL_law 322 = .ok (.iaload, 1) := by decide +kernel
theorem dL_law_323 : decode cL_law 323 = .ok (.aload_n 0, 1) := by decide +kernel
theorem dL_law_324 : decode cL_law 324 = .ok (.iload_n 3, 1) := by decide +kernel
theorem dL_law_325 : decode cL_law 325 = .ok (.iconst 2, 1) := by decide +kernel
theorem dL_law_326 : decode cL_law 326 = .ok (.iadd, 1) := by decide +kernel
theorem dL_law_327 : decode cL_law 327 = .ok (.iaload, 1) := by decide +kernel
theorem dL_law_328 : decode cL_law 328 = .ok (.invokevirtual 45, 3) := by decide +kernel
theorem dL_law_331 : decode cL_law 331 = .ok (.aload_n 2, 1) := by decide +kernel
theorem dL_law_332 : decode cL_law 332 = .ok (.aload_n 0, 1) := by decide +kernel
theorem dL_law_333 : decode cL_law 333 = .ok (.iload_n 3, 1) := by decide +kernel
theorem dL_law_334 : decode cL_law 334 = .ok (.iconst 1, 1) := by decide +kernel
theorem dL_law_335 : decode cL_law 335 = .ok (.iadd, 1) := by decide +kernel
theorem dL_law_336 : decode cL_law 336 = .ok (.iaload, 1) := by decide +kernel
theorem dL_law_337 : decode cL_law 337 = .ok (.aload_n 0, 1) := by decide +kernel
theorem dL_law_338 : decode cL_law 338 = .ok (.iload_n 3, 1) := by decide +kernel
theorem dL_law_339 : decode cL_law 339 = .ok (.iconst 2, 1) := by decide +kernel
theorem dL_law_340 : decode cL_law 340 = .ok (.iadd, 1) := by decide +kernel
theorem dL_law_341 : decode cL_law 341 = .ok (.iaload, 1) := by decide +kernel
theorem dL_law_342 : decode cL_law 342 = .ok (.invokevirtual 48, 3) := by decide +kernel
theorem dL_law_345 : decode cL_law 345 = .ok (.if_icmp .eq 721, 3) := by decide +kernel
theorem dL_law_348 : decode cL_law 348 = .ok (.iconst 0, 1) := by decide +kernel
theorem dL_law_349 : decode cL_law 349 = .ok (.ireturn, 1) := by decide +kernel
theorem dL_law_350 : decode cL_law 350 = .ok (.aload_n 1, 1) := by decide +kernel
theorem dL_law_351 : decode cL_law 351 = .ok (.aload_n 0, 1) := by decide +kernel
theorem dL_law_352 : decode cL_law 352 = .ok (.iload_n 3, 1) := by decide +kernel
theorem dL_law_353 : decode cL_law 353 = .ok (.iconst 1, 1) := by decide +kernel
theorem dL_law_354 : decode cL_law 354 = .ok (.iadd, 1) := by decide +kernel
theorem dL_law_355 : decode cL_law 355 = .ok (.iaload, 1) := by decide +kernel
theorem dL_law_356 : decode cL_law 356 = .ok (.aload_n 0, 1) := by decide +kernel
theorem dL_law_357 : decode cL_law 357 = .ok (.iload_n 3, 1) := by decide +kernel
theorem dL_law_358 : decode cL_law 358 = .ok (.iconst 2, 1) := by decide +kernel
theorem dL_law_359 : decode cL_law 359 = .ok (.iadd, 1) := by decide +kernel
theorem dL_law_360 : decode cL_law 360 = .ok (.iaload, 1) := by decide +kernel
theorem dL_law_361 : decode cL_law 361 = .ok (.aload_n 0, 1) := by decide +kernel
theorem dL_law_362 : decode cL_law 362 = .ok (.iload_n 3, 1) := by decide +kernel
theorem dL_law_363 : decode cL_law 363 = .ok (.iconst 3, 1) := by decide +kernel
theorem dL_law_364 : decode cL_law 364 = .ok (.iadd, 1) := by decide +kernel
theorem dL_law_365 : decode cL_law 365 = .ok (.iaload, 1) := by decide +kernel
theorem dL_law_366 : decode cL_law 366 = .ok (.invokevirtual 49, 3) := by decide +kernel
theorem dL_law_369 : decode cL_law 369 = .ok (.aload_n 2, 1) := by decide +kernel
theorem dL_law_370 : decode cL_law 370 = .ok (.aload_n 0, 1) := by decide +kernel
theorem dL_law_371 : decode cL_law 371 = .ok (.iload_n 3, 1) := by decide +kernel
theorem dL_law_372 : decode cL_law 372 = .ok (.iconst 1, 1) := by decide +kernel
theorem dL_law_373 : decode cL_law 373 = .ok (.iadd, 1) := by decide +kernel
theorem dL_law_374 : decode cL_law 374 = .ok (.iaload, 1) := by decide +kernel
theorem dL_law_375 : decode cL_law 375 = .ok (.aload_n 0, 1) := by decide +kernel
theorem dL_law_376 : decode cL_law 376 = .ok (.iload_n 3, 1) := by decide +kernel
theorem dL_law_377 : decode cL_law 377 = .ok (.iconst 2, 1) := by decide +kernel
theorem dL_law_378 : decode cL_law 378 = .ok (.iadd, 1) := by decide +kernel
theorem dL_law_379 : decode cL_law 379 = .ok (.iaload, 1) := by decide +kernel
theorem dL_law_380 : decode cL_law 380 = .ok (.aload_n 0, 1) := by decide +kernel
theorem dL_law_381 : decode cL_law 381 = .ok (.iload_n 3, 1) := by decide +kernel
theorem dL_law_382 : decode cL_law 382 = .ok (.iconst 3, 1) := by decide +kernel
theorem dL_law_383 : decode cL_law 383 = .ok (.iadd, 1) := by decide +kernel
theorem dL_law_384 : decode cL_law 384 = .ok (.iaload, 1) := by decide +kernel
theorem dL_law_385 : decode cL_law 385 = .ok (.invokevirtual 52, 3) := by decide +kernel
theorem dL_law_388 : decode cL_law 388 = .ok (.if_icmp .eq 678, 3) := by decide +kernel
theorem dL_law_391 : decode cL_law 391 = .ok (.iconst 0, 1) := by decide +kernel
theorem dL_law_392 : decode cL_law 392 = .ok (.ireturn, 1) := by decide +kernel
theorem dL_law_393 : decode cL_law 393 = .ok (.aload_n 1, 1) := by decide +kernel
theorem dL_law_394 : decode cL_law 394 = .ok (.invokevirtual 53, 3) := by decide +kernel
theorem dL_law_397 : decode cL_law 397 = .ok (.aload_n 2, 1) := by decide +kernel
theorem dL_law_398 : decode cL_law 398 = .ok (.invokevirtual 56, 3) := by decide +kernel
theorem dL_law_401 : decode cL_law 401 = .ok (.if_icmp .eq 665, 3) := by decide +kernel
theorem dL_law_404 : decode cL_law 404 = .ok (.iconst 0, 1) := by decide +kernel
theorem dL_law_405 : decode cL_law 405 = .ok (.ireturn, 1) := by decide +kernel
theorem dL_law_406 : decode cL_law 406 = .ok (.aload_n 1, 1) := by decide +kernel
theorem dL_law_407 : decode cL_law 407 = .ok (.aload_n 0, 1) := by decide +kernel
theorem dL_law_408 : decode cL_law 408 = .ok (.iload_n 3, 1) := by decide +kernel
theorem dL_law_409 : decode cL_law 409 = .ok (.iconst 1, 1) := by decide +kernel
theorem dL_law_410 : decode cL_law 410 = .ok (.iadd, 1) := by decide +kernel
theorem dL_law_411 : decode cL_law 411 = .ok (.iaload, 1) := by decide +kernel
theorem dL_law_412 : decode cL_law 412 = .ok (.ifCond .eq 7, 3) := by decide +kernel
theorem dL_law_415 : decode cL_law 415 = .ok (.iconst 1, 1) := by decide +kernel
theorem dL_law_416 : decode cL_law 416 = .ok (.goto 4, 3) := by decide +kernel
theorem dL_law_419 : decode cL_law 419 = .ok (.iconst 0, 1) := by decide +kernel
theorem dL_law_420 : decode cL_law 420 = .ok (.invokevirtual 57, 3) := by decide +kernel
theorem dL_law_423 : decode cL_law 423 = .ok (.aload_n 2, 1) := by decide +kernel
theorem dL_law_424 : decode cL_law 424 = .ok (.aload_n 0, 1) := by decide +kernel
theorem dL_law_425 : decode cL_law 425 = .ok (.iload_n 3, 1) := by decide +kernel
theorem dL_law_426 : decode cL_law 426 = .ok (.iconst 1, 1) := by decide +kernel
theorem dL_law_427 : decode cL_law 427 = .ok (.iadd, 1) := by decide +kernel
theorem dL_law_428 : decode cL_law 428 = .ok (.iaload, 1) := by decide +kernel
theorem dL_law_429 : decode cL_law 429 = .ok (.ifCond .eq 7, 3) := by decide +kernel
theorem dL_law_432 : decode cL_law 432 = .ok (.iconst 1, 1) := by decide +kernel
theorem dL_law_433 : decode cL_law 433 = .ok (.goto 4, 3) := by decide +kernel
theorem dL_law_436 : decode cL_law 436 = .ok (.iconst 0, 1) := by decide +kernel
theorem dL_law_437 : decode cL_law 437 = .ok (.invokevirtual 61, 3) := by decide +kernel
theorem dL_law_440 : decode cL_law 440 = .ok (.if_icmp .eq 626, 3) := by decide +kernel
theorem dL_law_443 : decode cL_law 443 = .ok (.iconst 0, 1) := by decide +kernel
theorem dL_law_444 : decode cL_law 444 = .ok (.ireturn, 1) := by decide +kernel
theorem dL_law_445 : decode cL_law 445 = .ok (.aload_n 1, 1) := by decide +kernel
theorem dL_law_446 : decode cL_law 446 = .ok (.aload_n 0, 1) := by decide +kernel
theorem dL_law_447 : decode cL_law 447 = .ok (.iload_n 3, 1) := by decide +kernel
theorem dL_law_448 : decode cL_law 448 = .ok (.iconst 1, 1) := by decide +kernel
theorem dL_law_449 : decode cL_law 449 = .ok (.iadd, 1) := by decide +kernel
theorem dL_law_450 : decode cL_law 450 = .ok (.iaload, 1) := by decide +kernel
theorem dL_law_451 : decode cL_law 451 = .ok (.aload_n 0, 1) := by decide +kernel
theorem dL_law_452 : decode cL_law 452 = .ok (.iload_n 3, 1) := by decide +kernel
theorem dL_law_453 : decode cL_law 453 = .ok (.iconst 2, 1) := by decide +kernel
theorem dL_law_454 : decode cL_law 454 = .ok (.iadd, 1) := by decide +kernel
theorem dL_law_455 : decode cL_law 455 = .ok (.iaload, 1) := by decide +kernel
theorem dL_law_456 : decode cL_law 456 = .ok (.invokevirtual 62, 3) := by decide +kernel
theorem dL_law_459 : decode cL_law 459 = .ok (.aload_n 2, 1) := by decide +kernel
theorem dL_law_460 : decode cL_law 460 = .ok (.aload_n 0, 1) := by decide +kernel
theorem dL_law_461 : decode cL_law 461 = .ok (.iload_n 3, 1) := by decide +kernel
theorem dL_law_462 : decode cL_law 462 = .ok (.iconst 1, 1) := by decide +kernel
theorem dL_law_463 : decode cL_law 463 = .ok (.iadd, 1) := by decide +kernel
theorem dL_law_464 : decode cL_law 464 = .ok (.iaload, 1) := by decide +kernel
theorem dL_law_465 : decode cL_law 465 = .ok (.aload_n 0, 1) := by decide +kernel
theorem dL_law_466 : decode cL_law 466 = .ok (.iload_n 3, 1) := by decide +kernel
theorem dL_law_467 : decode cL_law 467 = .ok (.iconst 2, 1) := by decide +kernel
theorem dL_law_468 : decode cL_law 468 = .ok (.iadd, 1) := by decide +kernel
theorem dL_law_469 : decode cL_law 469 = .ok (.iaload, 1) := by decide +kernel
theorem dL_law_470 : decode cL_law 470 = .ok (.invokevirtual 65, 3) := by decide +kernel
theorem dL_law_473 : decode cL_law 473 = .ok (.if_icmp .eq 593, 3) := by decide +kernel
theorem dL_law_476 : decode cL_law 476 = .ok (.iconst 0, 1) := by decide +kernel
theorem dL_law_477 : decode cL_law 477 = .ok (.ireturn, 1) := by decide +kernel
theorem dL_law_478 : decode cL_law 478 = .ok (.aload_n 1, 1) := by decide +kernel
theorem dL_law_479 : decode cL_law 479 = .ok (.aload_n 0, 1) := by decide +kernel
theorem dL_law_480 : decode cL_law 480 = .ok (.iload_n 3, 1) := by decide +kernel
theorem dL_law_481 : decode cL_law 481 = .ok (.iconst 1, 1) := by decide +kernel
theorem dL_law_482 : decode cL_law 482 = .ok (.iadd, 1) := by decide +kernel
theorem dL_law_483 : decode cL_law 483 = .ok (.iaload, 1) := by decide +kernel
theorem dL_law_484 : decode cL_law 484 = .ok (.aload_n 0, 1) := by decide +kernel
theorem dL_law_485 : decode cL_law 485 = .ok (.iload_n 3, 1) := by decide +kernel
theorem dL_law_486 : decode cL_law 486 = .ok (.iconst 2, 1) := by decide +kernel
theorem dL_law_487 : decode cL_law 487 = .ok (.iadd, 1) := by decide +kernel
theorem dL_law_488 : decode cL_law 488 = .ok (.iaload, 1) := by decide +kernel
theorem dL_law_489 : decode cL_law 489 = .ok (.invokevirtual 66, 3) := by decide +kernel
theorem dL_law_492 : decode cL_law 492 = .ok (.aload_n 2, 1) := by decide +kernel
theorem dL_law_493 : decode cL_law 493 = .ok (.aload_n 0, 1) := by decide +kernel
theorem dL_law_494 : decode cL_law 494 = .ok (.iload_n 3, 1) := by decide +kernel
theorem dL_law_495 : decode cL_law 495 = .ok (.iconst 1, 1) := by decide +kernel
theorem dL_law_496 : decode cL_law 496 = .ok (.iadd, 1) := by decide +kernel
theorem dL_law_497 : decode cL_law 497 = .ok (.iaload, 1) := by decide +kernel
theorem dL_law_498 : decode cL_law 498 = .ok (.aload_n 0, 1) := by decide +kernel
theorem dL_law_499 : decode cL_law 499 = .ok (.iload_n 3, 1) := by decide +kernel
theorem dL_law_500 : decode cL_law 500 = .ok (.iconst 2, 1) := by decide +kernel
theorem dL_law_501 : decode cL_law 501 = .ok (.iadd, 1) := by decide +kernel
theorem dL_law_502 : decode cL_law 502 = .ok (.iaload, 1) := by decide +kernel
theorem dL_law_503 : decode cL_law 503 = .ok (.invokevirtual 69, 3) := by decide +kernel
theorem dL_law_506 : decode cL_law 506 = .ok (.if_icmp .eq 560, 3) := by decide +kernel
theorem dL_law_509 : decode cL_law 509 = .ok (.iconst 0, 1) := by decide +kernel
theorem dL_law_510 : decode cL_law 510 = .ok (.ireturn, 1) := by decide +kernel
theorem dL_law_511 : decode cL_law 511 = .ok (.aload_n 1, 1) := by decide +kernel
theorem dL_law_512 : decode cL_law 512 = .ok (.aload_n 0, 1) := by decide +kernel
theorem dL_law_513 : decode cL_law 513 = .ok (.iload_n 3, 1) := by decide +kernel
theorem dL_law_514 : decode cL_law 514 = .ok (.iconst 1, 1) := by decide +kernel
theorem dL_law_515 : decode cL_law 515 = .ok (.iadd, 1) := by decide +kernel
theorem dL_law_516 : decode cL_law 516 = .ok (.iaload, 1) := by decide +kernel
theorem dL_law_517 : decode cL_law 517 = .ok (.aload_n 0, 1) := by decide +kernel
theorem dL_law_518 : decode cL_law 518 = .ok (.iload_n 3, 1) := by decide +kernel
theorem dL_law_519 : decode cL_law 519 = .ok (.iconst 2, 1) := by decide +kernel
theorem dL_law_520 : decode cL_law 520 = .ok (.iadd, 1) := by decide +kernel
theorem dL_law_521 : decode cL_law 521 = .ok (.iaload, 1) := by decide +kernel
theorem dL_law_522 : decode cL_law 522 = .ok (.aload_n 0, 1) := by decide +kernel
theorem dL_law_523 : decode cL_law 523 = .ok (.iload_n 3, 1) := by decide +kernel
theorem dL_law_524 : decode cL_law 524 = .ok (.iconst 3, 1) := by decide +kernel
theorem dL_law_525 : decode cL_law 525 = .ok (.iadd, 1) := by decide +kernel
theorem dL_law_526 : decode cL_law 526 = .ok (.iaload, 1) := by decide +kernel
theorem dL_law_527 : decode cL_law 527 = .ok (.invokevirtual 70, 3) := by decide +kernel
theorem dL_law_530 : decode cL_law 530 = .ok (.aload_n 2, 1) := by decide +kernel
theorem dL_law_531 : decode cL_law 531 = .ok (.aload_n 0, 1) := by decide +kernel
theorem dL_law_532 : decode cL_law 532 = .ok (.iload_n 3, 1) := by decide +kernel
theorem dL_law_533 : decode cL_law 533 = .ok (.iconst 1, 1) := by decide +kernel
theorem dL_law_534 : decode cL_law 534 = .ok (.iadd, 1) := by decide +kernel
theorem dL_law_535 : decode cL_law 535 = .ok (.iaload, 1) := by decide +kernel
theorem dL_law_536 : decode cL_law 536 = .ok (.aload_n 0, 1) := by decide +kernel
theorem dL_law_537 : decode cL_law 537 = .ok (.iload_n 3, 1) := by decide +kernel
theorem dL_law_538 : decode cL_law 538 = .ok (.iconst 2, 1) := by decide +kernel
theorem dL_law_539 : decode cL_law 539 = .ok (.iadd, 1) := by decide +kernel
theorem dL_law_540 : decode cL_law 540 = .ok (.iaload, 1) := by decide +kernel
theorem dL_law_541 : decode cL_law 541 = .ok (.aload_n 0, 1) := by decide +kernel
theorem dL_law_542 : decode cL_law 542 = .ok (.iload_n 3, 1) := by decide +kernel
theorem dL_law_543 : decode cL_law 543 = .ok (.iconst 3, 1) := by decide +kernel
theorem dL_law_544 : decode cL_law 544 = .ok (.iadd, 1) := by decide +kernel
theorem dL_law_545 : decode cL_law 545 = .ok (.iaload, 1) := by decide +kernel
theorem dL_law_546 : decode cL_law 546 = .ok (.invokevirtual 73, 3) := by decide +kernel
theorem dL_law_549 : decode cL_law 549 = .ok (.if_icmp .eq 517, 3) := by decide +kernel
theorem dL_law_552 : decode cL_law 552 = .ok (.iconst 0, 1) := by decide +kernel
theorem dL_law_553 : decode cL_law 553 = .ok (.ireturn, 1) := by decide +kernel
theorem dL_law_554 : decode cL_law 554 = .ok (.aload_n 1, 1) := by decide +kernel
theorem dL_law_555 : decode cL_law 555 = .ok (.aload_n 0, 1) := by decide +kernel
theorem dL_law_556 : decode cL_law 556 = .ok (.iload_n 3, 1) := by decide +kernel
theorem dL_law_557 : decode cL_law 557 = .ok (.iconst 1, 1) := by decide +kernel
theorem dL_law_558 : decode cL_law 558 = .ok (.iadd, 1) := by decide +kernel
theorem dL_law_559 : decode cL_law 559 = .ok (.iaload, 1) := by decide +kernel
theorem dL_law_560 : decode cL_law 560 = .ok (.aload_n 0, 1) := by decide +kernel
theorem dL_law_561 : decode cL_law 561 = .ok (.iload_n 3, 1) := by decide +kernel
theorem dL_law_562 : decode cL_law 562 = .ok (.iconst 2, 1) := by decide +kernel
theorem dL_law_563 : decode cL_law 563 = .ok (.iadd, 1) := by decide +kernel
theorem dL_law_564 : decode cL_law 564 = .ok (.iaload, 1) := by decide +kernel
theorem dL_law_565 : decode cL_law 565 = .ok (.aload_n 0, 1) := by decide +kernel
theorem dL_law_566 : decode cL_law 566 = .ok (.iload_n 3, 1) := by decide +kernel
theorem dL_law_567 : decode cL_law 567 = .ok (.iconst 3, 1) := by decide +kernel
theorem dL_law_568 : decode cL_law 568 = .ok (.iadd, 1) := by decide +kernel
theorem dL_law_569 : decode cL_law 569 = .ok (.iaload, 1) := by decide +kernel
theorem dL_law_570 : decode cL_law 570 = .ok (.aload_n 0, 1) := by decide +kernel
theorem dL_law_571 : decode cL_law 571 = .ok (.iload_n 3, 1) := by decide +kernel
theorem dL_law_572 : decode cL_law 572 = .ok (.iconst 4, 1) := by decide +kernel
theorem dL_law_573 : decode cL_law 573 = .ok (.iadd, 1) := by decide +kernel
theorem dL_law_574 : decode cL_law 574 = .ok (.iaload, 1) := by decide +kernel
theorem dL_law_575 : decode cL_law 575 = .ok (.aload_n 0, 1) := by decide +kernel
theorem dL_law_576 : decode cL_law 576 = .ok (.iload_n 3, 1) := by decide +kernel
theorem dL_law_577 : decode cL_law 577 = .ok (.iconst 5, 1) := by decide +kernel
theorem dL_law_578 : decode cL_law 578 = .ok (.iadd, 1) := by decide +kernel
theorem dL_law_579 : decode cL_law 579 = .ok (.iaload, 1) := by decide +kernel
theorem dL_law_580 : decode cL_law 580 = .ok (.invokevirtual 74, 3) := by decide +kernel
theorem dL_law_583 : decode cL_law 583 = .ok (.aload_n 2, 1) := by decide +kernel
theorem dL_law_584 : decode cL_law 584 = .ok (.aload_n 0, 1) := by decide +kernel
theorem dL_law_585 : decode cL_law 585 = .ok (.iload_n 3, 1) := by decide +kernel
theorem dL_law_586 : decode cL_law 586 = .ok (.iconst 1, 1) := by decide +kernel
theorem dL_law_587 : decode cL_law 587 = .ok (.iadd, 1) := by decide +kernel
theorem dL_law_588 : decode cL_law 588 = .ok (.iaload, 1) := by decide +kernel
theorem dL_law_589 : decode cL_law 589 = .ok (.aload_n 0, 1) := by decide +kernel
theorem dL_law_590 : decode cL_law 590 = .ok (.iload_n 3, 1) := by decide +kernel
theorem dL_law_591 : decode cL_law 591 = .ok (.iconst 2, 1) := by decide +kernel
theorem dL_law_592 : decode cL_law 592 = .ok (.iadd, 1) := by decide +kernel
theorem dL_law_593 : decode cL_law 593 = .ok (.iaload, 1) := by decide +kernel
theorem dL_law_594 : decode cL_law 594 = .ok (.aload_n 0, 1) := by decide +kernel
theorem dL_law_595 : decode cL_law 595 = .ok (.iload_n 3, 1) := by decide +kernel
theorem dL_law_596 : decode cL_law 596 = .ok (.iconst 3, 1) := by decide +kernel
theorem dL_law_597 : decode cL_law 597 = .ok (.iadd, 1) := by decide +kernel
theorem dL_law_598 : decode cL_law 598 = .ok (.iaload, 1) := by decide +kernel
theorem dL_law_599 : decode cL_law 599 = .ok (.aload_n 0, 1) := by decide +kernel
theorem dL_law_600 : decode cL_law 600 = .ok (.iload_n 3, 1) := by decide +kernel
theorem dL_law_601 : decode cL_law 601 = .ok (.iconst 4, 1) := by decide +kernel
theorem dL_law_602 : decode cL_law 602 = .ok (.iadd, 1) := by decide +kernel
theorem dL_law_603 : decode cL_law 603 = .ok (.iaload, 1) := by decide +kernel
theorem dL_law_604 : decode cL_law 604 = .ok (.aload_n 0, 1) := by decide +kernel
theorem dL_law_605 : decode cL_law 605 = .ok (.iload_n 3, 1) := by decide +kernel
theorem dL_law_606 : decode cL_law 606 = .ok (.iconst 5, 1) := by decide +kernel
theorem dL_law_607 : decode cL_law 607 = .ok (.iadd, 1) := by decide +kernel
theorem dL_law_608 : decode cL_law 608 = .ok (.iaload, 1) := by decide +kernel
theorem dL_law_609 : decode cL_law 609 = .ok (.invokevirtual 78, 3) := by decide +kernel
theorem dL_law_612 : decode cL_law 612 = .ok (.if_icmp .eq 454, 3) := by decide +kernel
theorem dL_law_615 : decode cL_law 615 = .ok (.iconst 0, 1) := by decide +kernel
theorem dL_law_616 : decode cL_law 616 = .ok (.ireturn, 1) := by decide +kernel
theorem dL_law_617 : decode cL_law 617 = .ok (.aload_n 1, 1) := by decide +kernel
theorem dL_law_618 : decode cL_law 618 = .ok (.aload_n 0, 1) := by decide +kernel
theorem dL_law_619 : decode cL_law 619 = .ok (.iload_n 3, 1) := by decide +kernel
theorem dL_law_620 : decode cL_law 620 = .ok (.iconst 1, 1) := by decide +kernel
theorem dL_law_621 : decode cL_law 621 = .ok (.iadd, 1) := by decide +kernel
theorem dL_law_622 : decode cL_law 622 = .ok (.iaload, 1) := by decide +kernel
theorem dL_law_623 : decode cL_law 623 = .ok (.aload_n 0, 1) := by decide +kernel
theorem dL_law_624 : decode cL_law 624 = .ok (.iload_n 3, 1) := by decide +kernel
theorem dL_law_625 : decode cL_law 625 = .ok (.iconst 2, 1) := by decide +kernel
theorem dL_law_626 : decode cL_law 626 = .ok (.iadd, 1) := by decide +kernel
theorem dL_law_627 : decode cL_law 627 = .ok (.iaload, 1) := by decide +kernel
theorem dL_law_628 : decode cL_law 628 = .ok (.aload_n 0, 1) := by decide +kernel
theorem dL_law_629 : decode cL_law 629 = .ok (.iload_n 3, 1) := by decide +kernel
theorem dL_law_630 : decode cL_law 630 = .ok (.iconst 3, 1) := by decide +kernel
theorem dL_law_631 : decode cL_law 631 = .ok (.iadd, 1) := by decide +kernel
theorem dL_law_632 : decode cL_law 632 = .ok (.iaload, 1) := by decide +kernel
theorem dL_law_633 : decode cL_law 633 = .ok (.invokevirtual 79, 3) := by decide +kernel
theorem dL_law_636 : decode cL_law 636 = .ok (.aload_n 2, 1) := by decide +kernel
theorem dL_law_637 : decode cL_law 637 = .ok (.aload_n 0, 1) := by decide +kernel
theorem dL_law_638 : decode cL_law 638 = .ok (.iload_n 3, 1) := by decide +kernel
theorem dL_law_639 : decode cL_law 639 = .ok (.iconst 1, 1) := by decide +kernel
theorem dL_law_640 : decode cL_law 640 = .ok (.iadd, 1) := by decide +kernel
theorem dL_law_641 : decode cL_law 641 = .ok (.iaload, 1) := by decide +kernel
theorem dL_law_642 : decode cL_law 642 = .ok (.aload_n 0, 1) := by decide +kernel
theorem dL_law_643 : decode cL_law 643 = .ok (.iload_n 3, 1) := by decide +kernel
theorem dL_law_644 : decode cL_law 644 = .ok (.iconst 2, 1) := by decide +kernel
theorem dL_law_645 : decode cL_law 645 = .ok (.iadd, 1) := by decide +kernel
theorem dL_law_646 : decode cL_law 646 = .ok (.iaload, 1) := by decide +kernel
theorem dL_law_647 : decode cL_law 647 = .ok (.aload_n 0, 1) := by decide +kernel
theorem dL_law_648 : decode cL_law 648 = .ok (.iload_n 3, 1) := by decide +kernel
theorem dL_law_649 : decode cL_law 649 = .ok (.iconst 3, 1) := by decide +kernel
theorem dL_law_650 : decode cL_law 650 = .ok (.iadd, 1) := by decide +kernel
theorem dL_law_651 : decode cL_law 651 = .ok (.iaload, 1) := by decide +kernel
theorem dL_law_652 : decode cL_law 652 = .ok (.invokevirtual 82, 3) := by decide +kernel
theorem dL_law_655 : decode cL_law 655 = .ok (.if_icmp .eq 411, 3) := by decide +kernel
theorem dL_law_658 : decode cL_law 658 = .ok (.iconst 0, 1) := by decide +kernel
theorem dL_law_659 : decode cL_law 659 = .ok (.ireturn, 1) := by decide +kernel
theorem dL_law_660 : decode cL_law 660 = .ok (.aload_n 1, 1) := by decide +kernel
theorem dL_law_661 : decode cL_law 661 = .ok (.aload_n 0, 1) := by decide +kernel
theorem dL_law_662 : decode cL_law 662 = .ok (.iload_n 3, 1) := by decide +kernel
theorem dL_law_663 : decode cL_law 663 = .ok (.iconst 1, 1) := by decide +kernel
theorem dL_law_664 : decode cL_law 664 = .ok (.iadd, 1) := by decide +kernel
theorem dL_law_665 : decode cL_law 665 = .ok (.iaload, 1) := by decide +kernel
theorem dL_law_666 : decode cL_law 666 = .ok (.invokevirtual 83, 3) := by decide +kernel
theorem dL_law_669 : decode cL_law 669 = .ok (.aload_n 2, 1) := by decide +kernel
theorem dL_law_670 : decode cL_law 670 = .ok (.aload_n 0, 1) := by decide +kernel
theorem dL_law_671 : decode cL_law 671 = .ok (.iload_n 3, 1) := by decide +kernel
theorem dL_law_672 : decode cL_law 672 = .ok (.iconst 1, 1) := by decide +kernel
theorem dL_law_673 : decode cL_law 673 = .ok (.iadd, 1) := by decide +kernel
theorem dL_law_674 : decode cL_law 674 = .ok (.iaload, 1) := by decide +kernel
theorem dL_law_675 : decode cL_law 675 = .ok (.invokevirtual 86, 3) := by decide +kernel
theorem dL_law_678 : decode cL_law 678 = .ok (.if_icmp .eq 388, 3) := by decide +kernel
theorem dL_law_681 : decode cL_law 681 = .ok (.iconst 0, 1) := by decide +kernel
theorem dL_law_682 : decode cL_law 682 = .ok (.ireturn, 1) := by decide +kernel
theorem dL_law_683 : decode cL_law 683 = .ok (.aload_n 1, 1) := by decide +kernel
theorem dL_law_684 : decode cL_law 684 = .ok (.aload_n 0, 1) := by decide +kernel
theorem dL_law_685 : decode cL_law 685 = .ok (.iload_n 3, 1) := by decide +kernel
theorem dL_law_686 : decode cL_law 686 = .ok (.iconst 1, 1) := by decide +kernel
theorem dL_law_687 : decode cL_law 687 = .ok (.iadd, 1) := by decide +kernel
theorem dL_law_688 : decode cL_law 688 = .ok (.iaload, 1) := by decide +kernel
theorem dL_law_689 : decode cL_law 689 = .ok (.aload_n 0, 1) := by decide +kernel
theorem dL_law_690 : decode cL_law 690 = .ok (.iload_n 3, 1) := by decide +kernel
theorem dL_law_691 : decode cL_law 691 = .ok (.iconst 2, 1) := by decide +kernel
theorem dL_law_692 : decode cL_law 692 = .ok (.iadd, 1) := by decide +kernel
theorem dL_law_693 : decode cL_law 693 = .ok (.iaload, 1) := by decide +kernel
theorem dL_law_694 : decode cL_law 694 = .ok (.i2l, 1) := by decide +kernel
theorem dL_law_695 : decode cL_law 695 = .ok (.bipush 32, 2) := by decide +kernel
theorem dL_law_697 : decode cL_law 697 = .ok (.lshl, 1) := by decide +kernel
theorem dL_law_698 : decode cL_law 698 = .ok (.aload_n 0, 1) := by decide +kernel
theorem dL_law_699 : decode cL_law 699 = .ok (.iload_n 3, 1) := by decide +kernel
theorem dL_law_700 : decode cL_law 700 = .ok (.iconst 3, 1) := by decide +kernel
theorem dL_law_701 : decode cL_law 701 = .ok (.iadd, 1) := by decide +kernel
theorem dL_law_702 : decode cL_law 702 = .ok (.iaload, 1) := by decide +kernel
theorem dL_law_703 : decode cL_law 703 = .ok (.i2l, 1) := by decide +kernel
theorem dL_law_704 : decode cL_law 704 = .ok (.ldc2_w 87, 3) := by decide +kernel
theorem dL_law_707 : decode cL_law 707 = .ok (.land, 1) := by decide +kernel
theorem dL_law_708 : decode cL_law 708 = .ok (.lor, 1) := by decide +kernel
theorem dL_law_709 : decode cL_law 709 = .ok (.invokevirtual 89, 3) := by decide +kernel
theorem dL_law_712 : decode cL_law 712 = .ok (.aload_n 2, 1) := by decide +kernel
theorem dL_law_713 : decode cL_law 713 = .ok (.aload_n 0, 1) := by decide +kernel
theorem dL_law_714 : decode cL_law 714 = .ok (.iload_n 3, 1) := by decide +kernel
theorem dL_law_715 : decode cL_law 715 = .ok (.iconst 1, 1) := by decide +kernel
theorem dL_law_716 : decode cL_law 716 = .ok (.iadd, 1) := by decide +kernel
theorem dL_law_717 : decode cL_law 717 = .ok (.iaload, 1) := by decide +kernel
theorem dL_law_718 : decode cL_law 718 = .ok (.aload_n 0, 1) := by decide +kernel
theorem dL_law_719 : decode cL_law 719 = .ok (.iload_n 3, 1) := by decide +kernel
theorem dL_law_720 : decode cL_law 720 = .ok (.iconst 2, 1) := by decide +kernel
theorem dL_law_721 : decode cL_law 721 = .ok (.iadd, 1) := by decide +kernel
theorem dL_law_722 : decode cL_law 722 = .ok (.iaload, 1) := by decide +kernel
theorem dL_law_723 : decode cL_law 723 = .ok (.i2l, 1) := by decide +kernel
theorem dL_law_724 : decode cL_law 724 = .ok (.bipush 32, 2) := by decide +kernel
theorem dL_law_726 : decode cL_law 726 = .ok (.lshl, 1) := by decide +kernel
theorem dL_law_727 : decode cL_law 727 = .ok (.aload_n 0, 1) := by decide +kernel
theorem dL_law_728 : decode cL_law 728 = .ok (.iload_n 3, 1) := by decide +kernel
theorem dL_law_729 : decode cL_law 729 = .ok (.iconst 3, 1) := by decide +kernel
theorem dL_law_730 : decode cL_law 730 = .ok (.iadd, 1) := by decide +kernel
theorem dL_law_731 : decode cL_law 731 = .ok (.iaload, 1) := by decide +kernel
theorem dL_law_732 : decode cL_law 732 = .ok (.i2l, 1) := by decide +kernel
theorem dL_law_733 : decode cL_law 733 = .ok (.ldc2_w 87, 3) := by decide +kernel
theorem dL_law_736 : decode cL_law 736 = .ok (.land, 1) := by decide +kernel
theorem dL_law_737 : decode cL_law 737 = .ok (.lor, 1) := by decide +kernel
theorem dL_law_738 : decode cL_law 738 = .ok (.invokevirtual 93, 3) := by decide +kernel
theorem dL_law_741 : decode cL_law 741 = .ok (.if_icmp .eq 325, 3) := by decide +kernel
theorem dL_law_744 : decode cL_law 744 = .ok (.iconst 0, 1) := by decide +kernel
theorem dL_law_745 : decode cL_law 745 = .ok (.ireturn, 1) := by decide +kernel
theorem dL_law_746 : decode cL_law 746 = .ok (.aload_n 1, 1) := by decide +kernel
theorem dL_law_747 : decode cL_law 747 = .ok (.aload_n 0, 1) := by decide +kernel
theorem dL_law_748 : decode cL_law 748 = .ok (.iload_n 3, 1) := by decide +kernel
theorem dL_law_749 : decode cL_law 749 = .ok (.iconst 1, 1) := by decide +kernel
theorem dL_law_750 : decode cL_law 750 = .ok (.iadd, 1) := by decide +kernel
theorem dL_law_751 : decode cL_law 751 = .ok (.iaload, 1) := by decide +kernel
theorem dL_law_752 : decode cL_law 752 = .ok (.aload_n 0, 1) := by decide +kernel
theorem dL_law_753 : decode cL_law 753 = .ok (.iload_n 3, 1) := by decide +kernel
theorem dL_law_754 : decode cL_law 754 = .ok (.iconst 2, 1) := by decide +kernel
theorem dL_law_755 : decode cL_law 755 = .ok (.iadd, 1) := by decide +kernel
theorem dL_law_756 : decode cL_law 756 = .ok (.iaload, 1) := by decide +kernel
theorem dL_law_757 : decode cL_law 757 = .ok (.ifCond .eq 7, 3) := by decide +kernel
theorem dL_law_760 : decode cL_law 760 = .ok (.iconst 1, 1) := by decide +kernel
theorem dL_law_761 : decode cL_law 761 = .ok (.goto 4, 3) := by decide +kernel
theorem dL_law_764 : decode cL_law 764 = .ok (.iconst 0, 1) := by decide +kernel
theorem dL_law_765 : decode cL_law 765 = .ok (.invokevirtual 94, 3) := by decide +kernel
theorem dL_law_768 : decode cL_law 768 = .ok (.aload_n 2, 1) := by decide +kernel
theorem dL_law_769 : decode cL_law 769 = .ok (.aload_n 0, 1) := by decide +kernel
theorem dL_law_770 : decode cL_law 770 = .ok (.iload_n 3, 1) := by decide +kernel
theorem dL_law_771 : decode cL_law 771 = .ok (.iconst 1, 1) := by decide +kernel
theorem dL_law_772 : decode cL_law 772 = .ok (.iadd, 1) := by decide +kernel
theorem dL_law_773 : decode cL_law 773 = .ok (.iaload, 1) := by decide +kernel
theorem dL_law_774 : decode cL_law 774 = .ok (.aload_n 0, 1) := by decide +kernel
theorem dL_law_775 : decode cL_law 775 = .ok (.iload_n 3, 1) := by decide +kernel
theorem dL_law_776 : decode cL_law 776 = .ok (.iconst 2, 1) := by decide +kernel
theorem dL_law_777 : decode cL_law 777 = .ok (.iadd, 1) := by decide +kernel
theorem dL_law_778 : decode cL_law 778 = .ok (.iaload, 1) := by decide +kernel
theorem dL_law_779 : decode cL_law 779 = .ok (.ifCond .eq 7, 3) := by decide +kernel
theorem dL_law_782 : decode cL_law 782 = .ok (.iconst 1, 1) := by decide +kernel
theorem dL_law_783 : decode cL_law 783 = .ok (.goto 4, 3) := by decide +kernel
theorem dL_law_786 : decode cL_law 786 = .ok (.iconst 0, 1) := by decide +kernel
theorem dL_law_787 : decode cL_law 787 = .ok (.invokevirtual 98, 3) := by decide +kernel
theorem dL_law_790 : decode cL_law 790 = .ok (.if_icmp .eq 276, 3) := by decide +kernel
theorem dL_law_793 : decode cL_law 793 = .ok (.iconst 0, 1) := by decide +kernel
theorem dL_law_794 : decode cL_law 794 = .ok (.ireturn, 1) := by decide +kernel
theorem dL_law_795 : decode cL_law 795 = .ok (.aload_n 1, 1) := by decide +kernel
theorem dL_law_796 : decode cL_law 796 = .ok (.aload_n 0, 1) := by decide +kernel
theorem dL_law_797 : decode cL_law 797 = .ok (.iload_n 3, 1) := by decide +kernel
theorem dL_law_798 : decode cL_law 798 = .ok (.iconst 1, 1) := by decide +kernel
theorem dL_law_799 : decode cL_law 799 = .ok (.iadd, 1) := by decide +kernel
theorem dL_law_800 : decode cL_law 800 = .ok (.iaload, 1) := by decide +kernel
theorem dL_law_801 : decode cL_law 801 = .ok (.aload_n 0, 1) := by decide +kernel
theorem dL_law_802 : decode cL_law 802 = .ok (.iload_n 3, 1) := by decide +kernel
theorem dL_law_803 : decode cL_law 803 = .ok (.iconst 2, 1) := by decide +kernel
theorem dL_law_804 : decode cL_law 804 = .ok (.iadd, 1) := by decide +kernel
theorem dL_law_805 : decode cL_law 805 = .ok (.iaload, 1) := by decide +kernel
theorem dL_law_806 : decode cL_law 806 = .ok (.aload_n 0, 1) := by decide +kernel
theorem dL_law_807 : decode cL_law 807 = .ok (.iload_n 3, 1) := by decide +kernel
theorem dL_law_808 : decode cL_law 808 = .ok (.iconst 3, 1) := by decide +kernel
theorem dL_law_809 : decode cL_law 809 = .ok (.iadd, 1) := by decide +kernel
theorem dL_law_810 : decode cL_law 810 = .ok (.iaload, 1) := by decide +kernel
theorem dL_law_811 : decode cL_law 811 = .ok (.invokevirtual 99, 3) := by decide +kernel
theorem dL_law_814 : decode cL_law 814 = .ok (.aload_n 2, 1) := by decide +kernel
theorem dL_law_815 : decode cL_law 815 = .ok (.aload_n 0, 1) := by decide +kernel
theorem dL_law_816 : decode cL_law 816 = .ok (.iload_n 3, 1) := by decide +kernel
theorem dL_law_817 : decode cL_law 817 = .ok (.iconst 1, 1) := by decide +kernel
theorem dL_law_818 : decode cL_law 818 = .ok (.iadd, 1) := by decide +kernel
theorem dL_law_819 : decode cL_law 819 = .ok (.iaload, 1) := by decide +kernel
theorem dL_law_820 : decode cL_law 820 = .ok (.aload_n 0, 1) := by decide +kernel
theorem dL_law_821 : decode cL_law 821 = .ok (.iload_n 3, 1) := by decide +kernel
theorem dL_law_822 : decode cL_law 822 = .ok (.iconst 2, 1) := by decide +kernel
theorem dL_law_823 : decode cL_law 823 = .ok (.iadd, 1) := by decide +kernel
theorem dL_law_824 : decode cL_law 824 = .ok (.iaload, 1) := by decide +kernel
theorem dL_law_825 : decode cL_law 825 = .ok (.aload_n 0, 1) := by decide +kernel
theorem dL_law_826 : decode cL_law 826 = .ok (.iload_n 3, 1) := by decide +kernel
theorem dL_law_827 : decode cL_law 827 = .ok (.iconst 3, 1) := by decide +kernel
theorem dL_law_828 : decode cL_law 828 = .ok (.iadd, 1) := by decide +kernel
theorem dL_law_829 : decode cL_law 829 = .ok (.iaload, 1) := by decide +kernel
theorem dL_law_830 : decode cL_law 830 = .ok (.invokevirtual 102, 3) := by decide +kernel
theorem dL_law_833 : decode cL_law 833 = .ok (.if_icmp .eq 233, 3) := by decide +kernel
theorem dL_law_836 : decode cL_law 836 = .ok (.iconst 0, 1) := by decide +kernel
theorem dL_law_837 : decode cL_law 837 = .ok (.ireturn, 1) := by decide +kernel
theorem dL_law_838 : decode cL_law 838 = .ok (.aload_n 1, 1) := by decide +kernel
theorem dL_law_839 : decode cL_law 839 = .ok (.invokevirtual 103, 3) := by decide +kernel
theorem dL_law_842 : decode cL_law 842 = .ok (.aload_n 2, 1) := by decide +kernel
theorem dL_law_843 : decode cL_law 843 = .ok (.invokevirtual 106, 3) := by decide +kernel
theorem dL_law_846 : decode cL_law 846 = .ok (.if_icmp .eq 220, 3) := by decide +kernel
theorem dL_law_849 : decode cL_law 849 = .ok (.iconst 0, 1) := by decide +kernel
theorem dL_law_850 : decode cL_law 850 = .ok (.ireturn, 1) := by decide +kernel
theorem dL_law_851 : decode cL_law 851 = .ok (.aload_n 1, 1) := by decide +kernel
theorem dL_law_852 : decode cL_law 852 = .ok (.aload_n 0, 1) := by decide +kernel
theorem dL_law_853 : decode cL_law 853 = .ok (.iload_n 3, 1) := by decide +kernel
theorem dL_law_854 : decode cL_law 854 = .ok (.iconst 1, 1) := by decide +kernel
theorem dL_law_855 : decode cL_law 855 = .ok (.iadd, 1) := by decide +kernel
theorem dL_law_856 : decode cL_law 856 = .ok (.iaload, 1) := by decide +kernel
theorem dL_law_857 : decode cL_law 857 = .ok (.invokevirtual 107, 3) := by decide +kernel
theorem dL_law_860 : decode cL_law 860 = .ok (.aload_n 2, 1) := by decide +kernel
theorem dL_law_861 : decode cL_law 861 = .ok (.aload_n 0, 1) := by decide +kernel
theorem dL_law_862 : decode cL_law 862 = .ok (.iload_n 3, 1) := by decide +kernel
theorem dL_law_863 : decode cL_law 863 = .ok (.iconst 1, 1) := by decide +kernel
theorem dL_law_864 : decode cL_law 864 = .ok (.iadd, 1) := by decide +kernel
theorem dL_law_865 : decode cL_law 865 = .ok (.iaload, 1) := by decide +kernel
theorem dL_law_866 : decode cL_law 866 = .ok (.invokevirtual 110, 3) := by decide +kernel
theorem dL_law_869 : decode cL_law 869 = .ok (.if_icmp .eq 197, 3) := by decide +kernel
theorem dL_law_872 : decode cL_law 872 = .ok (.iconst 0, 1) := by decide +kernel
theorem dL_law_873 : decode cL_law 873 = .ok (.ireturn, 1) := by decide +kernel
theorem dL_law_874 : decode cL_law 874 = .ok (.aload_n 1, 1) := by decide +kernel
theorem dL_law_875 : decode cL_law 875 = .ok (.aload_n 0, 1) := by decide +kernel
theorem dL_law_876 : decode cL_law 876 = .ok (.iload_n 3, 1) := by decide +kernel
theorem dL_law_877 : decode cL_law 877 = .ok (.iconst 1, 1) := by decide +kernel
theorem dL_law_878 : decode cL_law 878 = .ok (.iadd, 1) := by decide +kernel
theorem dL_law_879 : decode cL_law 879 = .ok (.iaload, 1) := by decide +kernel
theorem dL_law_880 : decode cL_law 880 = .ok (.aload_n 0, 1) := by decide +kernel
theorem dL_law_881 : decode cL_law 881 = .ok (.iload_n 3, 1) := by decide +kernel
theorem dL_law_882 : decode cL_law 882 = .ok (.iconst 2, 1) := by decide +kernel
theorem dL_law_883 : decode cL_law 883 = .ok (.iadd, 1) := by decide +kernel
theorem dL_law_884 : decode cL_law 884 = .ok (.iaload, 1) := by decide +kernel
theorem dL_law_885 : decode cL_law 885 = .ok (.aload_n 0, 1) := by decide +kernel
theorem dL_law_886 : decode cL_law 886 = .ok (.iload_n 3, 1) := by decide +kernel
theorem dL_law_887 : decode cL_law 887 = .ok (.iconst 3, 1) := by decide +kernel
theorem dL_law_888 : decode cL_law 888 = .ok (.iadd, 1) := by decide +kernel
theorem dL_law_889 : decode cL_law 889 = .ok (.iaload, 1) := by decide +kernel
theorem dL_law_890 : decode cL_law 890 = .ok (.aload_n 0, 1) := by decide +kernel
theorem dL_law_891 : decode cL_law 891 = .ok (.iload_n 3, 1) := by decide +kernel
theorem dL_law_892 : decode cL_law 892 = .ok (.iconst 4, 1) := by decide +kernel
theorem dL_law_893 : decode cL_law 893 = .ok (.iadd, 1) := by decide +kernel
theorem dL_law_894 : decode cL_law 894 = .ok (.iaload, 1) := by decide +kernel
theorem dL_law_895 : decode cL_law 895 = .ok (.ifCond .eq 7, 3) := by decide +kernel
theorem dL_law_898 : decode cL_law 898 = .ok (.iconst 1, 1) := by decide +kernel
theorem dL_law_899 : decode cL_law 899 = .ok (.goto 4, 3) := by decide +kernel
theorem dL_law_902 : decode cL_law 902 = .ok (.iconst 0, 1) := by decide +kernel
theorem dL_law_903 : decode cL_law 903 = .ok (.invokevirtual 111, 3) := by decide +kernel
theorem dL_law_906 : decode cL_law 906 = .ok (.aload_n 2, 1) := by decide +kernel
theorem dL_law_907 : decode cL_law 907 = .ok (.aload_n 0, 1) := by decide +kernel
theorem dL_law_908 : decode cL_law 908 = .ok (.iload_n 3, 1) := by decide +kernel
theorem dL_law_909 : decode cL_law 909 = .ok (.iconst 1, 1) := by decide +kernel
theorem dL_law_910 : decode cL_law 910 = .ok (.iadd, 1) := by decide +kernel
theorem dL_law_911 : decode cL_law 911 = .ok (.iaload, 1) := by decide +kernel
theorem dL_law_912 : decode cL_law 912 = .ok (.aload_n 0, 1) := by decide +kernel
theorem dL_law_913 : decode cL_law 913 = .ok (.iload_n 3, 1) := by decide +kernel
theorem dL_law_914 : decode cL_law 914 = .ok (.iconst 2, 1) := by decide +kernel
theorem dL_law_915 : decode cL_law 915 = .ok (.iadd, 1) := by decide +kernel
theorem dL_law_916 : decode cL_law 916 = .ok (.iaload, 1) := by decide +kernel
theorem dL_law_917 : decode cL_law 917 = .ok (.aload_n 0, 1) := by decide +kernel
theorem dL_law_918 : decode cL_law 918 = .ok (.iload_n 3, 1) := by decide +kernel
theorem dL_law_919 : decode cL_law 919 = .ok (.iconst 3, 1) := by decide +kernel
theorem dL_law_920 : decode cL_law 920 = .ok (.iadd, 1) := by decide +kernel
theorem dL_law_921 : decode cL_law 921 = .ok (.iaload, 1) := by decide +kernel
theorem dL_law_922 : decode cL_law 922 = .ok (.aload_n 0, 1) := by decide +kernel
theorem dL_law_923 : decode cL_law 923 = .ok (.iload_n 3, 1) := by decide +kernel
theorem dL_law_924 : decode cL_law 924 = .ok (.iconst 4, 1) := by decide +kernel
theorem dL_law_925 : decode cL_law 925 = .ok (.iadd, 1) := by decide +kernel
theorem dL_law_926 : decode cL_law 926 = .ok (.iaload, 1) := by decide +kernel
theorem dL_law_927 : decode cL_law 927 = .ok (.ifCond .eq 7, 3) := by decide +kernel
theorem dL_law_930 : decode cL_law 930 = .ok (.iconst 1, 1) := by decide +kernel
theorem dL_law_931 : decode cL_law 931 = .ok (.goto 4, 3) := by decide +kernel
theorem dL_law_934 : decode cL_law 934 = .ok (.iconst 0, 1) := by decide +kernel
theorem dL_law_935 : decode cL_law 935 = .ok (.invokevirtual 115, 3) := by decide +kernel
theorem dL_law_938 : decode cL_law 938 = .ok (.if_icmp .eq 128, 3) := by decide +kernel
theorem dL_law_941 : decode cL_law 941 = .ok (.iconst 0, 1) := by decide +kernel
theorem dL_law_942 : decode cL_law 942 = .ok (.ireturn, 1) := by decide +kernel
theorem dL_law_943 : decode cL_law 943 = .ok (.aload_n 1, 1) := by decide +kernel
theorem dL_law_944 : decode cL_law 944 = .ok (.aload_n 0, 1) := by decide +kernel
theorem dL_law_945 : decode cL_law 945 = .ok (.iload_n 3, 1) := by decide +kernel
theorem dL_law_946 : decode cL_law 946 = .ok (.iconst 1, 1) := by decide +kernel
theorem dL_law_947 : decode cL_law 947 = .ok (.iadd, 1) := by decide +kernel
theorem dL_law_948 : decode cL_law 948 = .ok (.iaload, 1) := by decide +kernel
theorem dL_law_949 : decode cL_law 949 = .ok (.i2l, 1) := by decide +kernel
theorem dL_law_950 : decode cL_law 950 = .ok (.bipush 32, 2) := by decide +kernel
theorem dL_law_952 : decode cL_law 952 = .ok (.lshl, 1) := by decide +kernel
theorem dL_law_953 : decode cL_law 953 = .ok (.aload_n 0, 1) := by decide +kernel
theorem dL_law_954 : decode cL_law 954 = .ok (.iload_n 3, 1) := by decide +kernel
theorem dL_law_955 : decode cL_law 955 = .ok (.iconst 2, 1) := by decide +kernel
theorem dL_law_956 : decode cL_law 956 = .ok (.iadd, 1) := by decide +kernel
theorem dL_law_957 : decode cL_law 957 = .ok (.iaload, 1) := by decide +kernel
theorem dL_law_958 : decode cL_law 958 = .ok (.i2l, 1) := by decide +kernel
theorem dL_law_959 : decode cL_law 959 = .ok (.ldc2_w 87, 3) := by decide +kernel
theorem dL_law_962 : decode cL_law 962 = .ok (.land, 1) := by decide +kernel
theorem dL_law_963 : decode cL_law 963 = .ok (.lor, 1) := by decide +kernel
theorem dL_law_964 : decode cL_law 964 = .ok (.invokevirtual 116, 3) := by decide +kernel
theorem dL_law_967 : decode cL_law 967 = .ok (.aload_n 2, 1) := by decide +kernel
theorem dL_law_968 : decode cL_law 968 = .ok (.aload_n 0, 1) := by decide +kernel
theorem dL_law_969 : decode cL_law 969 = .ok (.iload_n 3, 1) := by decide +kernel
theorem dL_law_970 : decode cL_law 970 = .ok (.iconst 1, 1) := by decide +kernel
theorem dL_law_971 : decode cL_law 971 = .ok (.iadd, 1) := by decide +kernel
theorem dL_law_972 : decode cL_law 972 = .ok (.iaload, 1) := by decide +kernel
theorem dL_law_973 : decode cL_law 973 = .ok (.i2l, 1) := by decide +kernel
theorem dL_law_974 : decode cL_law 974 = .ok (.bipush 32, 2) := by decide +kernel
theorem dL_law_976 : decode cL_law 976 = .ok (.lshl, 1) := by decide +kernel
theorem dL_law_977 : decode cL_law 977 = .ok (.aload_n 0, 1) := by decide +kernel
theorem dL_law_978 : decode cL_law 978 = .ok (.iload_n 3, 1) := by decide +kernel
theorem dL_law_979 : decode cL_law 979 = .ok (.iconst 2, 1) := by decide +kernel
theorem dL_law_980 : decode cL_law 980 = .ok (.iadd, 1) := by decide +kernel
theorem dL_law_981 : decode cL_law 981 = .ok (.iaload, 1) := by decide +kernel
theorem dL_law_982 : decode cL_law 982 = .ok (.i2l, 1) := by decide +kernel
theorem dL_law_983 : decode cL_law 983 = .ok (.ldc2_w 87, 3) := by decide +kernel
theorem dL_law_986 : decode cL_law 986 = .ok (.land, 1) := by decide +kernel
theorem dL_law_987 : decode cL_law 987 = .ok (.lor, 1) := by decide +kernel
theorem dL_law_988 : decode cL_law 988 = .ok (.invokevirtual 120, 3) := by decide +kernel
theorem dL_law_991 : decode cL_law 991 = .ok (.lcmp, 1) := by decide +kernel
theorem dL_law_992 : decode cL_law 992 = .ok (.ifCond .eq 74, 3) := by decide +kernel
theorem dL_law_995 : decode cL_law 995 = .ok (.iconst 0, 1) := by decide +kernel
theorem dL_law_996 : decode cL_law 996 = .ok (.ireturn, 1) := by decide +kernel
theorem dL_law_997 : decode cL_law 997 = .ok (.aload_n 1, 1) := by decide +kernel
theorem dL_law_998 : decode cL_law 998 = .ok (.aload_n 0, 1) := by decide +kernel
theorem dL_law_999 : decode cL_law 999 = .ok (.iload_n 3, 1) := by decide +kernel
theorem dL_law_1000 : decode cL_law 1000 = .ok (.iconst 1, 1) := by decide +kernel
theorem dL_law_1001 : decode cL_law 1001 = .ok (.iadd, 1) := by decide +kernel
theorem dL_law_1002 : decode cL_law 1002 = .ok (.iaload, 1) := by decide +kernel
theorem dL_law_1003 : decode cL_law 1003 = .ok (.invokevirtual 121, 3) := by decide +kernel
theorem dL_law_1006 : decode cL_law 1006 = .ok (.aload_n 2, 1) := by decide +kernel
theorem dL_law_1007 : decode cL_law 1007 = .ok (.aload_n 0, 1) := by decide +kernel
theorem dL_law_1008 : decode cL_law 1008 = .ok (.iload_n 3, 1) := by decide +kernel
theorem dL_law_1009 : decode cL_law 1009 = .ok (.iconst 1, 1) := by decide +kernel
theorem dL_law_1010 : decode cL_law 1010 = .ok (.iadd, 1) := by decide +kernel
theorem dL_law_1011 : decode cL_law 1011 = .ok (.iaload, 1) := by decide +kernel
theorem dL_law_1012 : decode cL_law 1012 = .ok (.invokevirtual 124, 3) := by decide +kernel
theorem dL_law_1015 : decode cL_law 1015 = .ok (.if_icmp .eq 51, 3) := by decide +kernel
theorem dL_law_1018 : decode cL_law 1018 = .ok (.iconst 0, 1) := by decide +kernel
theorem dL_law_1019 : decode cL_law 1019 = .ok (.ireturn, 1) := by decide +kernel
theorem dL_law_1020 : decode cL_law 1020 = .ok (.aload_n 1, 1) := by decide +kernel
theorem dL_law_1021 : decode cL_law 1021 = .ok (.aload_n 0, 1) := by decide +kernel
theorem dL_law_1022 : decode cL_law 1022 = .ok (.iload_n 3, 1) := by decide +kernel
theorem dL_law_1023 : decode cL_law 1023 = .ok (.iconst 1, 1) := by decide +kernel
theorem dL_law_1024 : decode cL_law 1024 = .ok (.iadd, 1) := by decide +kernel
theorem dL_law_1025 : decode cL_law 1025 = .ok (.iaload, 1) := by decide +kernel
theorem dL_law_1026 : decode cL_law 1026 = .ok (.invokevirtual 125, 3) := by decide +kernel
theorem dL_law_1029 : decode cL_law 1029 = .ok (.aload_n 2, 1) := by decide +kernel
theorem dL_law_1030 : decode cL_law 1030 = .ok (.aload_n 0, 1) := by decide +kernel
theorem dL_law_1031 : decode cL_law 1031 = .ok (.iload_n 3, 1) := by decide +kernel
theorem dL_law_1032 : decode cL_law 1032 = .ok (.iconst 1, 1) := by decide +kernel
theorem dL_law_1033 : decode cL_law 1033 = .ok (.iadd, 1) := by decide +kernel
theorem dL_law_1034 : decode cL_law 1034 = .ok (.iaload, 1) := by decide +kernel
theorem dL_law_1035 : decode cL_law 1035 = .ok (.invokevirtual 128, 3) := by decide +kernel
theorem dL_law_1038 : decode cL_law 1038 = .ok (.if_icmp .eq 28, 3) := by decide +kernel
theorem dL_law_1041 : decode cL_law 1041 = .ok (.iconst 0, 1) := by decide +kernel
theorem dL_law_1042 : decode cL_law 1042 = .ok (.ireturn, 1) := by decide +kernel
theorem dL_law_1043 : decode cL_law 1043 = .ok (.aload_n 1, 1) := by decide +kernel
theorem dL_law_1044 : decode cL_law 1044 = .ok (.aload_n 0, 1) := by decide +kernel
theorem dL_law_1045 : decode cL_law 1045 = .ok (.iload_n 3, 1) := by decide +kernel
theorem dL_law_1046 : decode cL_law 1046 = .ok (.iconst 1, 1) := by decide +kernel
theorem dL_law_1047 : decode cL_law 1047 = .ok (.iadd, 1) := by decide +kernel
theorem dL_law_1048 : decode cL_law 1048 = .ok (.iaload, 1) := by decide +kernel
theorem dL_law_1049 : decode cL_law 1049 = .ok (.invokevirtual 129, 3) := by decide +kernel
theorem dL_law_1052 : decode cL_law 1052 = .ok (.aload_n 2, 1) := by decide +kernel
theorem dL_law_1053 : decode cL_law 1053 = .ok (.aload_n 0, 1) := by decide +kernel
theorem dL_law_1054 : decode cL_law 1054 = .ok (.iload_n 3, 1) := by decide +kernel
theorem dL_law_1055 : decode cL_law 1055 = .ok (.iconst 1, 1) := by decide +kernel
theorem dL_law_1056 : decode cL_law 1056 = .ok (.iadd, 1) := by decide +kernel
theorem dL_law_1057 : decode cL_law 1057 = .ok (.iaload, 1) := by decide +kernel
theorem dL_law_1058 : decode cL_law 1058 = .ok (.invokevirtual 132, 3) := by decide +kernel
theorem dL_law_1061 : decode cL_law 1061 = .ok (.if_icmp .eq 5, 3) := by decide +kernel
theorem dL_law_1064 : decode cL_law 1064 = .ok (.iconst 0, 1) := by decide +kernel
theorem dL_law_1065 : decode cL_law 1065 = .ok (.ireturn, 1) := by decide +kernel
theorem dL_law_1066 : decode cL_law 1066 = .ok (.iinc 3 6, 3) := by decide +kernel
theorem dL_law_1069 : decode cL_law 1069 = .ok (.goto (-1051), 3) := by decide +kernel
theorem dL_law_1072 : decode cL_law 1072 = .ok (.iconst 1, 1) := by decide +kernel
theorem dL_law_1073 : decode cL_law 1073 = .ok (.ireturn, 1) := by decide +kernel
end
section
/-! OUR WORLD: a side (class or reference) is a fixed row of cells; a heap of numbers tells what they hold -/
abbrev tr_H : Type := (Nat → Nat → Int32) × (Nat → Nat → Int64)
def tr_sa (h : tr_H) (i : Nat) (f : Nat → Int32) : tr_H := (fun a => if a = i then f else h.1 a, h.2)
def tr_sb (h : tr_H) (i : Nat) (g : Nat → Int64) : tr_H := (h.1, fun a => if a = i then g else h.2 a)
def tr_si (h : tr_H) (i k : Nat) (v : Int32) : tr_H := tr_sa h i (upd (h.1 i) k v)
def tr_sl (h : tr_H) (i k : Nat) (v : Int64) : tr_H := tr_sb h i (vp_updL (h.2 i) k v)
abbrev tr_E : Type := va_G × (Nat → ClassId) × (Nat → Nat) × (Nat → Nat)
abbrev tr_ad (w : tr_E) : Nat → Nat := w.2.2.1
abbrev tr_Y : Type := Nat × ((Nat → Nat) → (Nat → ClassId) → Nat → (Nat → Int32) → (Nat → Int64) → va_E)
def tr_cs (Y : tr_Y) (w : tr_E) (h : tr_H) : va_W := (List.range Y.1).map (fun i => (tr_ad w i, Y.2 (tr_ad w) w.2.1 i (h.1 i) (h.2 i)))
theorem tr_cs_at {Y : tr_Y} {w : tr_E} {h : tr_H} {i : Nat} (hi : i < Y.1) : (tr_cs Y w h)[i]? = some (tr_ad w i, Y.2 (tr_ad w) w.2.1 i (h.1 i) (h.2 i)) := by
  unfold tr_cs
  rw [List.getElem?_map, List.getElem?_range hi]
  rfl
theorem tr_cs_len {Y : tr_Y} {w : tr_E} {h : tr_H} : (tr_cs Y w h).length = Y.1 := by
  unfold tr_cs
  rw [List.length_map, List.length_range]
theorem tr_cs_seta {Y : tr_Y} {w : tr_E} {h : tr_H} {i : Nat} (hi : i < Y.1) {f : Nat → Int32} {e : va_E} (he : Y.2 (tr_ad w) w.2.1 i f (h.2 i) = e) : (tr_cs Y w h).set i (tr_ad w i, e) = tr_cs Y w (tr_sa h i f) := by
  apply List.ext_getElem?
  intro j
  subst he
  by_cases hj : j < Y.1
  · rw [tr_cs_at hj]
    by_cases hji : j = i
    · subst hji
      rw [List.getElem?_set_self (by rw [tr_cs_len]; exact hj)]
      simp [tr_sa]
    · rw [List.getElem?_set_ne (Ne.symm hji), tr_cs_at hj]
      simp [tr_sa, hji]
  · rw [List.getElem?_eq_none (by rw [List.length_set, tr_cs_len]; omega), List.getElem?_eq_none (by rw [tr_cs_len]; omega)]
theorem tr_cs_setb {Y : tr_Y} {w : tr_E} {h : tr_H} {i : Nat} (hi : i < Y.1) {g : Nat → Int64} {e : va_E} (he : Y.2 (tr_ad w) w.2.1 i (h.1 i) g = e) : (tr_cs Y w h).set i (tr_ad w i, e) = tr_cs Y w (tr_sb h i g) := by
  apply List.ext_getElem?
  intro j
  subst he
  by_cases hj : j < Y.1
  · rw [tr_cs_at hj]
    by_cases hji : j = i
    · subst hji
      rw [List.getElem?_set_self (by rw [tr_cs_len]; exact hj)]
      simp [tr_sb]
    · rw [List.getElem?_set_ne (Ne.symm hji), tr_cs_at hj]
      simp [tr_sb, hji]
  · rw [List.getElem?_eq_none (by rw [List.length_set, tr_cs_len]; omega), List.getElem?_eq_none (by rw [tr_cs_len]; omega)]
def tr_R (Y : tr_Y) (w : tr_E) : Nat → Prop := fun q => ∃ i, i < Y.1 ∧ q = tr_ad w i
def tr_I (Y : tr_Y) (w : tr_E) : Prop := ∀ i j, i < Y.1 → j < Y.1 → tr_ad w i = tr_ad w j → i = j
theorem tr_cs_inv {Y : tr_Y} {w : tr_E} {h : tr_H} {k : Nat} {q : Nat × va_E} (hk : (tr_cs Y w h)[k]? = some q) : k < Y.1 ∧ q.1 = tr_ad w k := by
  have h1 : k < Y.1 := by
    have := (List.getElem?_eq_some_iff.mp hk).1
    rw [tr_cs_len] at this
    exact this
  rw [tr_cs_at h1] at hk
  cases hk
  exact ⟨h1, rfl⟩
theorem tr_I.D {Y : tr_Y} {w : tr_E} (hI : tr_I Y w) (h : tr_H) : va_D (tr_R Y w) (tr_cs Y w h) := by
  refine ⟨fun i j x y hi hj hxy => ?_, fun k q hk => ?_⟩
  · obtain ⟨a1, a2⟩ := tr_cs_inv hi
    obtain ⟨b1, b2⟩ := tr_cs_inv hj
    exact hI i j a1 b1 (by rw [← a2, ← b2]; exact hxy)
  · obtain ⟨a1, a2⟩ := tr_cs_inv hk
    exact ⟨k, a1, a2⟩
def tr_f0 (k : Nat) : Int32 := ([0, 60, 30, 20, 15, 12, 10] : List Int32).getD k 0
def tr_f1 (k : Nat) : Int32 := ([1, 1, 2, 6, 24, 120, 720] : List Int32).getD k 0
def tr_f2 (k : Nat) : Int64 := ([1, 10000, 100000000, 1000000000000, 10000000000000000] : List Int64).getD k 0
def tr_St (A : Nat → Prop) (t : Nat → Nat) (U : State) (H : Heap) : Prop :=
  va_Z "TurnRounds" "SIXTIETHS" "[I" (.ref (t 0)) A U H ∧ va_T .int (t 0) 7 (fun j => .int (tr_f0 j)) A U H ∧
  va_Z "TurnRounds" "FACTORIALS" "[I" (.ref (t 1)) A U H ∧ va_T .int (t 1) 7 (fun j => .int (tr_f1 j)) A U H ∧
  va_Z "TurnRounds" "ROW_ENDS" "[J" (.ref (t 2)) A U H ∧ va_T .long (t 2) 5 (fun j => .long (tr_f2 j)) A U H
def tr_nl : List (String × Nat × String × String × String × String) := [("TurnRounds$Delays", 28, "TurnRounds$Net", "size", "I", "TurnRounds"), ("TurnRounds$RingSets", 31, "TurnRounds$Net", "size", "I", "TurnRounds"), ("TurnRounds$Walks", 22, "TurnRounds$Net", "size", "I", "TurnRounds"), ("TurnRounds", 92, "TurnRounds$Net", "size", "I", "TurnRounds"), ("TurnRounds", 108, "TurnRounds$Doings", "count", "I", "TurnRounds"), ("TurnRounds", 111, "TurnRounds$Seen", "count", "I", "TurnRounds"), ("TurnRounds", 98, "TurnRounds$RingSets", "rings", "I", "TurnRounds"), ("TurnRounds$RingSets", 52, "TurnRounds", "SIXTIETHS", "[I", "TurnRounds"), ("TurnRounds$Walks", 45, "TurnRounds", "SIXTIETHS", "[I", "TurnRounds"), ("TurnRounds$RingSets", 65, "TurnRounds", "FACTORIALS", "[I", "TurnRounds")]
def tr_nw (q : String × Nat × String × String × String × String) : Cond := .fieldLinkNest q.1 q.2.1 q.2.2.1 q.2.2.2.1 q.2.2.2.2.1 q.2.2.2.2.2
def tr_ty (w : tr_E) : List (ClassId × FieldType) := [(w.2.1 0, .int), (w.2.1 1, .boolean), (w.2.1 2, .object "TurnRounds$Net")]
def tr_G (Y : tr_Y) (w : tr_E) (U : State) (H : Heap) : Prop :=
  va_K w.1 vwCl (tr_ty w) U ∧ tr_I Y w ∧ (∀ q ∈ tr_nl, va_Nw (tr_nw q) U) ∧ tr_St (tr_R Y w) w.2.2.2 U H
def tr_Wo (Y : tr_Y) (w : tr_E) (h : tr_H) (U : State) : Prop := va_P w.1 vwCl (tr_cs Y w h) U.heap ∧ tr_G Y w U U.heap
theorem tr_St.go {A : Nat → Prop} {t : Nat → Nat} {s U : State} {H : Heap} {locs : List Loc} (h : tr_St A t s s.heap) (hS : va_S A s.heap H locs) (hvm : s.vm.Alike U.vm) : tr_St A t U H := by
  obtain ⟨a, b, c, d, e, f⟩ := h
  exact ⟨(a.kept hS.2.1).moved hvm, (b.kept hS.2.1).moved hvm, (c.kept hS.2.1).moved hvm, (d.kept hS.2.1).moved hvm, (e.kept hS.2.1).moved hvm, (f.kept hS.2.1).moved hvm⟩
theorem tr_St.mv {A : Nat → Prop} {t : Nat → Nat} {s U : State} {H : Heap} (h : tr_St A t s H) (hvm : s.vm.Alike U.vm) : tr_St A t U H := by
  obtain ⟨a, b, c, d, e, f⟩ := h
  exact ⟨a.moved hvm, b.moved hvm, c.moved hvm, d.moved hvm, e.moved hvm, f.moved hvm⟩
theorem tr_G.go {Y : tr_Y} {w : tr_E} {s U : State} {H : Heap} {locs : List Loc} (h : tr_G Y w s s.heap) (hS : va_S (tr_R Y w) s.heap H locs) (hW : s.WarmedH U.vm) : tr_G Y w U H := by
  obtain ⟨a, b, c, d⟩ := h
  exact ⟨va_K.moved hW.alike a, b, fun q hq => va_Nw.warmF hW (c q hq), d.go hS hW.alike⟩
theorem tr_Wo.blind {Y : tr_Y} {w : tr_E} {h : tr_H} {av : List Value} : FrameBlind (va_Pc av (tr_Wo Y w h)) := by
  intro a U g mk q
  obtain ⟨q0, qP, qK, qI, qN, qS⟩ := q
  exact ⟨q0, qP, va_K.moved (u := U) (U := U.calling g mk a) (Vm.Alike.refl U.vm) qK, qI, fun x hx => va_Nw.same rfl (u := U) rfl (qN x hx), qS.mv (s := U) (Vm.Alike.refl U.vm)⟩
/-! the words -/
def tr_T : List Cond := lw_tbl.filter goodWord
theorem tr_in {x : Cond} (i : Nat) (h : lw_tbl[i]? = some x) (hg : goodWord x = true) : x ∈ tr_T := List.mem_filter.mpr ⟨List.mem_of_getElem? h, hg⟩
theorem tr_gi {ws : List Cond} (h : ∀ x ∈ ws, x ∈ tr_T) : GoodIn tr_T ws := by
  intro x hx
  exact ⟨h x hx, good_of_word (List.mem_filter.mp (h x hx)).2⟩
def tr_Cx (p : Program) (s : State) (m : MethodId) (args : Array Value) (c : Code) (cc : ByteArray) (nL : Nat) (own : String) (Y : tr_Y) (w : tr_E) : Prop :=
  p.tables.exec = Jvm.exec ∧ c.code = cc ∧ c.maxLocals = nL ∧ s.vm.findClass own = some m.cls ∧ (∀ x ∈ tr_T, x.before args s = true) ∧ tr_G Y w s s.heap
/-- a method that is called on an object of class K -/
def tr_Mv (K : String) (y : MethodName) (bytes : ByteArray) (maxL : Nat) (ret : Option FieldType) (n : Nat) : Prop :=
  Cond.instanceMethod y ∈ tr_T ∧ Cond.selects K y y ∈ tr_T ∧ Cond.initialized K ∈ tr_T ∧ Cond.code y bytes maxL ret ∈ tr_T ∧ (y.cls = K ∧ y.cls ≠ "java/lang/invoke/MethodHandle" ∧ y.cls ≠ "java/lang/invoke/VarHandle" ∧ (parseMethodDescriptor y.desc).map (fun d => d.parameters.length) = some n)
def tr_Ms (y : MethodName) (bytes : ByteArray) (maxL : Nat) (ret : Option FieldType) (n : Nat) : Prop :=
  Cond.static y ∈ tr_T ∧ Cond.initialized y.cls ∈ tr_T ∧ Cond.code y bytes maxL ret ∈ tr_T ∧ (y.cls ≠ "java/lang/invoke/MethodHandle" ∧ y.cls ≠ "java/lang/invoke/VarHandle" ∧ (parseMethodDescriptor y.desc).map (fun d => d.parameters.length) = some n)
/-! the pure side: what a method does, as a partial function -/
def tr_ok {α : Type} (o : Option α) (P : α → Prop) : Prop := ∃ a, o = some a ∧ P a
def tr_bd {α β : Type} (e : α) (f : α → β) : β := f e
def tr_bn {α β : Type} (o : Option α) (f : α → Option β) : Option β := o.bind f
def tr_gd {α : Type} (i : Int32) (n : Nat) (o : Option α) : Option α := if i < 0 ∨ n ≤ i.toNatClampNeg then none else o
def tr_nz {α : Type} (y : Int32) (o : Option α) : Option α := if y = 0 then none else o
def tr_nzl {α : Type} (y : Int64) (o : Option α) : Option α := if y = 0 then none else o
def tr_zb {α : Type} (v : Int32) (o : Option α) : Option α := if v = 0 ∨ v = 1 then o else none
def tr_it {σ ρ : Type} (f : σ → Option (σ ⊕ ρ)) : Nat → σ → Option ρ
  | 0, _ => none
  | n + 1, s => (f s).bind fun q => match q with
    | .inl s' => tr_it f n s'
    | .inr r => some r
theorem tr_it_up {σ ρ : Type} {f : σ → Option (σ ⊕ ρ)} : ∀ (n k : Nat) (s : σ) (r : ρ), tr_it f n s = some r → tr_it f (n + k) s = some r := by
  intro n
  induction n with
  | zero => intro k s r h; cases h
  | succ n ih =>
    intro k s r h
    rw [show n + 1 + k = (n + k) + 1 by omega]
    unfold tr_it at h ⊢
    cases hf : f s with
    | none => rw [hf] at h; cases h
    | some q =>
      rw [hf] at h
      cases q with
      | inl s' => exact ih k s' r h
      | inr r' => exact h
theorem tr_it_one {σ ρ : Type} {f : σ → Option (σ ⊕ ρ)} {n k : Nat} {s : σ} {r r' : ρ} (h : tr_it f n s = some r) (h' : tr_it f k s = some r') : r = r' := by
  have a := tr_it_up n k s r h
  have b := tr_it_up k n s r' h'
  rw [Nat.add_comm] at b
  exact Option.some.inj (a.symm.trans b)
noncomputable def tr_lp {σ ρ : Type} (f : σ → Option (σ ⊕ ρ)) (s : σ) : Option ρ :=
  @dite _ (∃ r, ∃ n, tr_it f n s = some r) (Classical.propDecidable _) (fun h => some (Classical.choose h)) (fun _ => none)
theorem tr_lp_iff {σ ρ : Type} {f : σ → Option (σ ⊕ ρ)} {s : σ} {r : ρ} : tr_lp f s = some r ↔ ∃ n, tr_it f n s = some r := by
  unfold tr_lp
  by_cases h : ∃ r, ∃ n, tr_it f n s = some r
  · rw [dif_pos h]
    obtain ⟨n, hn⟩ := Classical.choose_spec h
    refine ⟨fun e => ⟨n, by rw [hn]; exact e⟩, fun ⟨k, hk⟩ => by rw [tr_it_one hn hk]⟩
  · rw [dif_neg h]
    refine ⟨fun e => (by cases e), fun hk => absurd ⟨r, hk⟩ h⟩
theorem tr_lp_eq {σ ρ : Type} (f : σ → Option (σ ⊕ ρ)) (s : σ) : tr_lp f s = (f s).bind fun q => match q with
    | .inl s' => tr_lp f s'
    | .inr r => some r := by
  apply Option.ext
  intro r
  rw [tr_lp_iff]
  constructor
  · rintro ⟨n, hn⟩
    cases n with
    | zero => cases hn
    | succ n =>
      unfold tr_it at hn
      cases hf : f s with
      | none => rw [hf] at hn; cases hn
      | some q =>
        rw [hf] at hn
        cases q with
        | inl s' => exact tr_lp_iff.mpr ⟨n, hn⟩
        | inr r' => exact hn
  · intro h
    cases hf : f s with
    | none => rw [hf] at h; cases h
    | some q =>
      rw [hf] at h
      cases q with
      | inl s' =>
        obtain ⟨n, hn⟩ := tr_lp_iff.mp h
        refine ⟨n + 1, ?_⟩
        unfold tr_it
        rw [hf]
        exact hn
      | inr r' =>
        refine ⟨1, ?_⟩
        unfold tr_it
        rw [hf]
        exact h
theorem tr_okS {α : Type} {a : α} {P : α → Prop} (h : tr_ok (some a) P) : P a := by
  obtain ⟨b, hb, hP⟩ := h
  cases hb
  exact hP
theorem tr_ift {α : Type} {c : Prop} [Decidable c] {A B : Option α} {P : α → Prop} (h : tr_ok (if c then A else B) P) (hc : c) : tr_ok A P := by rwa [if_pos hc] at h
theorem tr_iff {α : Type} {c : Prop} [Decidable c] {A B : Option α} {P : α → Prop} (h : tr_ok (if c then A else B) P) (hc : ¬ c) : tr_ok B P := by rwa [if_neg hc] at h
theorem tr_okg {α : Type} {i : Int32} {n : Nat} {o : Option α} {P : α → Prop} (h : tr_ok (tr_gd i n o) P) : vp_in i n ∧ tr_ok o P := by
  unfold tr_gd at h
  by_cases hc : i < 0 ∨ n ≤ i.toNatClampNeg
  · rw [if_pos hc] at h; obtain ⟨a, ha, -⟩ := h; cases ha
  · rw [if_neg hc] at h; exact ⟨hc, h⟩
theorem tr_okn {α : Type} {y : Int32} {o : Option α} {P : α → Prop} (h : tr_ok (tr_nz y o) P) : ¬ y = 0 ∧ tr_ok o P := by
  unfold tr_nz at h
  by_cases hc : y = 0
  · rw [if_pos hc] at h; obtain ⟨a, ha, -⟩ := h; cases ha
  · rw [if_neg hc] at h; exact ⟨hc, h⟩
theorem tr_oknl {α : Type} {y : Int64} {o : Option α} {P : α → Prop} (h : tr_ok (tr_nzl y o) P) : ¬ y = 0 ∧ tr_ok o P := by
  unfold tr_nzl at h
  by_cases hc : y = 0
  · rw [if_pos hc] at h; obtain ⟨a, ha, -⟩ := h; cases ha
  · rw [if_neg hc] at h; exact ⟨hc, h⟩
theorem tr_okz {α : Type} {v : Int32} {o : Option α} {P : α → Prop} (h : tr_ok (tr_zb v o) P) : narrow .boolean (.int v) = .int v ∧ tr_ok o P := by
  unfold tr_zb at h
  by_cases hc : v = 0 ∨ v = 1
  · rw [if_pos hc] at h
    refine ⟨?_, h⟩
    rcases hc with rfl | rfl <;> rfl
  · rw [if_neg hc] at h; obtain ⟨a, ha, -⟩ := h; cases ha
theorem tr_okb {α β : Type} {o : Option α} {f : α → Option β} {P : β → Prop} (h : tr_ok (tr_bn o f) P) : ∃ a, o = some a ∧ tr_ok (f a) P := by
  obtain ⟨b, hb, hP⟩ := h
  unfold tr_bn at hb
  cases ho : o with
  | none => rw [ho] at hb; cases hb
  | some a => rw [ho] at hb; exact ⟨a, rfl, b, hb, hP⟩
theorem tr_okd {α β : Type} {e : α} {f : α → Option β} {P : β → Prop} (h : tr_ok (tr_bd e f) P) : ∃ x, x = e ∧ tr_ok (f x) P := ⟨e, rfl, h⟩
theorem tr_loop {σ ρ α : Type} {f : σ → Option (σ ⊕ ρ)} {s0 : σ} {cont : ρ → Option α} {P : α → Prop} (G : σ → Prop) (hk : tr_ok (tr_bn (tr_lp f s0) cont) P)
    (step : ∀ (P1 : σ ⊕ ρ → Prop), (∀ s', P1 (.inl s') → G s') → (∀ r, P1 (.inr r) → tr_ok (cont r) P) → ∀ s, tr_ok (f s) P1 → G s) : G s0 := by
  obtain ⟨r, hr, hP⟩ := tr_okb hk
  obtain ⟨n, hn⟩ := tr_lp_iff.mp hr
  clear hk hr
  induction n generalizing s0 with
  | zero => cases hn
  | succ n ih =>
    unfold tr_it at hn
    cases hf : f s0 with
    | none => rw [hf] at hn; cases hn
    | some q =>
      rw [hf] at hn
      refine step (fun q' => q' = q) ?_ ?_ s0 ⟨q, hf, rfl⟩
      · intro s' e
        subst e
        exact ih hn
      · intro r' e
        subst e
        cases hn
        exact hP
end
section
/-! rows of the machine over our world -/
section TRR
variable {p : Program} {l : Launch} {e : Env} {R : Room} {s : State} {m : MethodId} {args : Array Value} {below : List Frame} {meth : Method} {c : Code} {H : Heap} {locs : List Loc} {cells slots : Nat} {Q : State → Prop}
variable {cc : ByteArray} {nL pc : Nat} {own : String} {Y : tr_Y} {w : tr_E} {h : tr_H} {ls : Array Slot} {rest : List Value}
def tr_Ar (Y : tr_Y) (w : tr_E) (j n : Nat) : Prop := j < Y.1 ∧ ∀ f g, Y.2 (tr_ad w) w.2.1 j f g = .inl (w.2.1 0, n, .inl f)
def tr_Az (Y : tr_Y) (w : tr_E) (j n : Nat) : Prop := j < Y.1 ∧ ∀ f g, Y.2 (tr_ad w) w.2.1 j f g = .inl (w.2.1 1, n, .inl f)
def tr_Wd (p : Program) (l : Launch) (e : Env) (R : Room) (s : State) (m : MethodId) (args : Array Value) (below : List Frame) (meth : Method) (c : Code) (Q : State → Prop) (Y : tr_Y) (w : tr_E) (nL : Nat) (pc : Nat) (lv : List (Nat × Value)) (st : List Value) (h : tr_H) : Prop :=
  ∀ (H : Heap) (locs : List Loc) (ls : Array Slot), va_P w.1 vwCl (tr_cs Y w h) H → va_S (tr_R Y w) s.heap H locs → lv_has ls nL lv → W p l e R s m args below meth c H locs 0 0 Q (F0 m pc ls st)
theorem tr_ial (C : tr_Cx p s m args c cc nL own Y w) (hP : va_P w.1 vwCl (tr_cs Y w h) H) {j n : Nat} (ha : tr_Ar Y w j n) {i : Int32} (hin : vp_in i n) (hdg : decode cc pc = .ok (.iaload, 1))
    (kk : W p l e R s m args below meth c H locs cells slots Q (F0 m (pc + 1) ls (.int (h.1 j i.toNatClampNeg) :: rest))) : W p l e R s m args below meth c H locs cells slots Q (F0 m pc ls (.int i :: .ref (tr_ad w j) :: rest)) := by
  obtain ⟨hx, hb, hml, hown, hts, hG⟩ := C
  exact va_iald hx hb hG.1 hP j 0 (by rw [tr_cs_at ha.1, ha.2]) rfl hin hdg kk
theorem tr_zal (C : tr_Cx p s m args c cc nL own Y w) (hP : va_P w.1 vwCl (tr_cs Y w h) H) {j n : Nat} (ha : tr_Az Y w j n) {i : Int32} (hin : vp_in i n) (hdg : decode cc pc = .ok (.baload, 1))
    (kk : W p l e R s m args below meth c H locs cells slots Q (F0 m (pc + 1) ls (.int (h.1 j i.toNatClampNeg) :: rest))) : W p l e R s m args below meth c H locs cells slots Q (F0 m pc ls (.int i :: .ref (tr_ad w j) :: rest)) := by
  obtain ⟨hx, hb, hml, hown, hts, hG⟩ := C
  exact va_zald hx hb hG.1 hP j 1 (by rw [tr_cs_at ha.1, ha.2]) rfl hin hdg kk
theorem tr_alen (C : tr_Cx p s m args c cc nL own Y w) (hP : va_P w.1 vwCl (tr_cs Y w h) H) {j n : Nat} (ha : tr_Ar Y w j n) {v : Int32} (hv : Int32.ofNat n = v) (hdg : decode cc pc = .ok (.arraylength, 1))
    (kk : W p l e R s m args below meth c H locs cells slots Q (F0 m (pc + 1) ls (.int v :: rest))) : W p l e R s m args below meth c H locs cells slots Q (F0 m pc ls (.ref (tr_ad w j) :: rest)) := by
  obtain ⟨hx, hb, hml, hown, hts, hG⟩ := C
  exact va_alen (x := (n, .inl (h.1 j))) hx hb hG.1 hP j 0 (by rw [tr_cs_at ha.1, ha.2]) (ty := .int) rfl hv hdg kk
theorem tr_ias (C : tr_Cx p s m args c cc nL own Y w) (hP : va_P w.1 vwCl (tr_cs Y w h) H) (hS : va_S (tr_R Y w) s.heap H locs) {j n : Nat} (ha : tr_Ar Y w j n) {i x : Int32} (hin : vp_in i n) (hdg : decode cc pc = .ok (.iastore, 1))
    (kk : ∀ (H1 : Heap) (locs1 : List Loc), va_P w.1 vwCl (tr_cs Y w (tr_si h j i.toNatClampNeg x)) H1 → va_S (tr_R Y w) s.heap H1 locs1 → W p l e R s m args below meth c H1 locs1 cells slots Q (F0 m (pc + 1) ls rest)) : W p l e R s m args below meth c H locs cells slots Q (F0 m pc ls (.int x :: .int i :: .ref (tr_ad w j) :: rest)) := by
  obtain ⟨hx, hb, hml, hown, hts, hG⟩ := C
  refine va_iast (n := n) (f := h.1 j) (cA := w.2.1 0) hx hb hG.1 hP (hG.2.1.D h) hS j 0 (by rw [tr_cs_at ha.1, ha.2]) rfl hin hdg (fun H1 locs1 hP1 hD1 hS1 => ?_)
  rw [tr_cs_seta ha.1 (ha.2 _ _)] at hP1
  exact kk H1 locs1 hP1 hS1
theorem tr_zas (C : tr_Cx p s m args c cc nL own Y w) (hP : va_P w.1 vwCl (tr_cs Y w h) H) (hS : va_S (tr_R Y w) s.heap H locs) {j n : Nat} (ha : tr_Az Y w j n) {i x : Int32} (hin : vp_in i n) (hx1 : vp_nar .boolean x = x) (hdg : decode cc pc = .ok (.bastore, 1))
    (kk : ∀ (H1 : Heap) (locs1 : List Loc), va_P w.1 vwCl (tr_cs Y w (tr_si h j i.toNatClampNeg x)) H1 → va_S (tr_R Y w) s.heap H1 locs1 → W p l e R s m args below meth c H1 locs1 cells slots Q (F0 m (pc + 1) ls rest)) : W p l e R s m args below meth c H locs cells slots Q (F0 m pc ls (.int x :: .int i :: .ref (tr_ad w j) :: rest)) := by
  obtain ⟨hx, hb, hml, hown, hts, hG⟩ := C
  refine va_zast (n := n) (f := h.1 j) (cA := w.2.1 1) hx hb hG.1 hP (hG.2.1.D h) hS j 1 (by rw [tr_cs_at ha.1, ha.2]) rfl hin hdg (fun H1 locs1 hP1 hD1 hS1 => ?_)
  rw [hx1, tr_cs_seta ha.1 (ha.2 _ _)] at hP1
  exact kk H1 locs1 hP1 hS1
/-! fields -/
theorem tr_gf (C : tr_Cx p s m args c cc nL own Y w) (hP : va_P w.1 vwCl (tr_cs Y w h) H) {i ci k N idx : Nat} {fs : List Value} {K : String} {T : u_T} {v : Value} (hi : i < Y.1) (he : Y.2 (tr_ad w) w.2.1 i (h.1 i) (h.2 i) = .inr (ci, fs)) (hc : vwCl[ci]? = some (K, T, N)) (hin : ∀ x ∈ u_ws K T N, x ∈ tr_T) (hk : k < N) (hlk : Cond.fieldLink own idx K (T k).2.1 (T k).2.2.1 ∈ tr_T) (hT : (T k).1 = K) (hv : fs[k]? = some v) (hdg : decode cc pc = .ok (.getfield idx, 3))
    (kk : W p l e R s m args below meth c H locs cells slots Q (F0 m (pc + 3) ls (v :: rest))) : W p l e R s m args below meth c H locs cells slots Q (F0 m pc ls (.ref (tr_ad w i) :: rest)) := by
  obtain ⟨hx, hb, hml, hown, hts, hG⟩ := C
  exact va_get hx hb hts hin hown hG.1 hP i (by rw [tr_cs_at hi, he]) hc k hk (hts _ hlk) (fun x hx1 => by rw [hT] at hx1; exact hx1) hv hdg kk
theorem tr_gfN (C : tr_Cx p s m args c cc nL own Y w) (hP : va_P w.1 vwCl (tr_cs Y w h) H) {i ci k N idx : Nat} {fs : List Value} {K host : String} {T : u_T} {v : Value} (hi : i < Y.1) (he : Y.2 (tr_ad w) w.2.1 i (h.1 i) (h.2 i) = .inr (ci, fs)) (hc : vwCl[ci]? = some (K, T, N)) (hin : ∀ x ∈ u_ws K T N, x ∈ tr_T) (hk : k < N) (hlk : (own, idx, K, (T k).2.1, (T k).2.2.1, host) ∈ tr_nl) (hT : (T k).1 = K) (hv : fs[k]? = some v) (hdg : decode cc pc = .ok (.getfield idx, 3))
    (kk : W p l e R s m args below meth c H locs cells slots Q (F0 m (pc + 3) ls (v :: rest))) : W p l e R s m args below meth c H locs cells slots Q (F0 m pc ls (.ref (tr_ad w i) :: rest)) := by
  obtain ⟨hx, hb, hml, hown, hts, hG⟩ := C
  exact va_getN hx hb hts hin hown hG.1 hP i (by rw [tr_cs_at hi, he]) hc k hk (va_Nw.use rfl (hG.2.2.1 _ hlk)) (fun x hx1 => by rw [hT] at hx1; exact hx1) hv hdg kk
theorem tr_pfi (C : tr_Cx p s m args c cc nL own Y w) (hP : va_P w.1 vwCl (tr_cs Y w h) H) (hS : va_S (tr_R Y w) s.heap H locs) {i ci k N idx : Nat} {fs : List Value} {K : String} {T : u_T} (ty0 : Nat → FieldType) (hty : ∀ k, k < N → parseFieldDescriptor (T k).2.2.1 = some (ty0 k)) (hnm : ∀ a, a < N → ∀ b, b < N → a ≠ b → (T a).2.1 ≠ (T b).2.1) {v : Int32} (hi : i < Y.1) (he : Y.2 (tr_ad w) w.2.1 i (h.1 i) (h.2 i) = .inr (ci, fs)) (hc : vwCl[ci]? = some (K, T, N)) (hin : ∀ x ∈ u_ws K T N, x ∈ tr_T) (hk : k < N) (hlk : Cond.fieldLink own idx K (T k).2.1 (T k).2.2.1 ∈ tr_T) (hT : (T k).1 = K) (hfin : (T k).2.2.2 = false) (hd : parseFieldDescriptor (T k).2.2.1 = some .int) (hl : k < fs.length) (he2 : Y.2 (tr_ad w) w.2.1 i (upd (h.1 i) k v) (h.2 i) = .inr (ci, fs.set k (.int v))) (hdg : decode cc pc = .ok (.putfield idx, 3))
    (kk : ∀ (H1 : Heap) (locs1 : List Loc), va_P w.1 vwCl (tr_cs Y w (tr_si h i k v)) H1 → va_S (tr_R Y w) s.heap H1 locs1 → W p l e R s m args below meth c H1 locs1 cells slots Q (F0 m (pc + 3) ls rest)) : W p l e R s m args below meth c H locs cells slots Q (F0 m pc ls (.int v :: .ref (tr_ad w i) :: rest)) := by
  obtain ⟨hx, hb, hml, hown, hts, hG⟩ := C
  refine va_put (ty := .int) (v := .int v) hx hb hts hin ty0 hty hnm hown hG.1 hP (hG.2.1.D h) hS i (by rw [tr_cs_at hi, he]) hc k hk (hts _ hlk) (fun x hx1 => by rw [hT] at hx1; exact hx1) hfin hd rfl rfl hl hdg (fun H1 locs1 hP1 hD1 hS1 => ?_)
  rw [tr_cs_seta hi he2] at hP1
  exact kk H1 locs1 hP1 hS1
theorem tr_pfiN (C : tr_Cx p s m args c cc nL own Y w) (hP : va_P w.1 vwCl (tr_cs Y w h) H) (hS : va_S (tr_R Y w) s.heap H locs) {i ci k N idx : Nat} {fs : List Value} {K host : String} {T : u_T} (ty0 : Nat → FieldType) (hty : ∀ k, k < N → parseFieldDescriptor (T k).2.2.1 = some (ty0 k)) (hnm : ∀ a, a < N → ∀ b, b < N → a ≠ b → (T a).2.1 ≠ (T b).2.1) {v : Int32} (hi : i < Y.1) (he : Y.2 (tr_ad w) w.2.1 i (h.1 i) (h.2 i) = .inr (ci, fs)) (hc : vwCl[ci]? = some (K, T, N)) (hin : ∀ x ∈ u_ws K T N, x ∈ tr_T) (hk : k < N) (hlk : (own, idx, K, (T k).2.1, (T k).2.2.1, host) ∈ tr_nl) (hT : (T k).1 = K) (hfin : (T k).2.2.2 = false) (hd : parseFieldDescriptor (T k).2.2.1 = some .int) (hl : k < fs.length) (he2 : Y.2 (tr_ad w) w.2.1 i (upd (h.1 i) k v) (h.2 i) = .inr (ci, fs.set k (.int v))) (hdg : decode cc pc = .ok (.putfield idx, 3))
    (kk : ∀ (H1 : Heap) (locs1 : List Loc), va_P w.1 vwCl (tr_cs Y w (tr_si h i k v)) H1 → va_S (tr_R Y w) s.heap H1 locs1 → W p l e R s m args below meth c H1 locs1 cells slots Q (F0 m (pc + 3) ls rest)) : W p l e R s m args below meth c H locs cells slots Q (F0 m pc ls (.int v :: .ref (tr_ad w i) :: rest)) := by
  obtain ⟨hx, hb, hml, hown, hts, hG⟩ := C
  refine va_putN (ty := .int) (v := .int v) hx hb hts hin ty0 hty hnm hown hG.1 hP (hG.2.1.D h) hS i (by rw [tr_cs_at hi, he]) hc k hk (va_Nw.use rfl (hG.2.2.1 _ hlk)) (fun x hx1 => by rw [hT] at hx1; exact hx1) hfin hd rfl rfl hl hdg (fun H1 locs1 hP1 hD1 hS1 => ?_)
  rw [tr_cs_seta hi he2] at hP1
  exact kk H1 locs1 hP1 hS1
theorem tr_pfl (C : tr_Cx p s m args c cc nL own Y w) (hP : va_P w.1 vwCl (tr_cs Y w h) H) (hS : va_S (tr_R Y w) s.heap H locs) {i ci k N idx : Nat} {fs : List Value} {K : String} {T : u_T} (ty0 : Nat → FieldType) (hty : ∀ k, k < N → parseFieldDescriptor (T k).2.2.1 = some (ty0 k)) (hnm : ∀ a, a < N → ∀ b, b < N → a ≠ b → (T a).2.1 ≠ (T b).2.1) {v : Int64} (hi : i < Y.1) (he : Y.2 (tr_ad w) w.2.1 i (h.1 i) (h.2 i) = .inr (ci, fs)) (hc : vwCl[ci]? = some (K, T, N)) (hin : ∀ x ∈ u_ws K T N, x ∈ tr_T) (hk : k < N) (hlk : Cond.fieldLink own idx K (T k).2.1 (T k).2.2.1 ∈ tr_T) (hT : (T k).1 = K) (hfin : (T k).2.2.2 = false) (hd : parseFieldDescriptor (T k).2.2.1 = some .long) (hl : k < fs.length) (he2 : Y.2 (tr_ad w) w.2.1 i (h.1 i) (vp_updL (h.2 i) k v) = .inr (ci, fs.set k (.long v))) (hdg : decode cc pc = .ok (.putfield idx, 3))
    (kk : ∀ (H1 : Heap) (locs1 : List Loc), va_P w.1 vwCl (tr_cs Y w (tr_sl h i k v)) H1 → va_S (tr_R Y w) s.heap H1 locs1 → W p l e R s m args below meth c H1 locs1 cells slots Q (F0 m (pc + 3) ls rest)) : W p l e R s m args below meth c H locs cells slots Q (F0 m pc ls (.long v :: .ref (tr_ad w i) :: rest)) := by
  obtain ⟨hx, hb, hml, hown, hts, hG⟩ := C
  refine va_put (ty := .long) (v := .long v) hx hb hts hin ty0 hty hnm hown hG.1 hP (hG.2.1.D h) hS i (by rw [tr_cs_at hi, he]) hc k hk (hts _ hlk) (fun x hx1 => by rw [hT] at hx1; exact hx1) hfin hd rfl rfl hl hdg (fun H1 locs1 hP1 hD1 hS1 => ?_)
  rw [tr_cs_setb hi he2] at hP1
  exact kk H1 locs1 hP1 hS1
/-! names for what is computed -/
theorem tr_ti {α : Type} {x : Int32} {f : Int32 → Option α} {P : α → Prop} (hk : tr_ok (tr_bd x f) P) (k : ∀ y, tr_ok (f y) P → W p l e R s m args below meth c H locs cells slots Q (F0 m pc ls (.int y :: rest))) : W p l e R s m args below meth c H locs cells slots Q (F0 m pc ls (.int x :: rest)) := k x hk
theorem tr_tl {α : Type} {x : Int64} {f : Int64 → Option α} {P : α → Prop} (hk : tr_ok (tr_bd x f) P) (k : ∀ y, tr_ok (f y) P → W p l e R s m args below meth c H locs cells slots Q (F0 m pc ls (.long y :: rest))) : W p l e R s m args below meth c H locs cells slots Q (F0 m pc ls (.long x :: rest)) := k x hk
theorem tr_th {α : Type} {h1 : tr_H} {f : tr_H → Option α} {P : α → Prop} {X : Prop} (hk : tr_ok (tr_bd h1 f) P) (hP : va_P w.1 vwCl (tr_cs Y w h1) H) (k : ∀ h2, tr_ok (f h2) P → va_P w.1 vwCl (tr_cs Y w h2) H → X) : X := k h1 hk hP
/-! calls -/
theorem tr_pre (C : tr_Cx p s m args c cc nL own Y w) (hP : va_P w.1 vwCl (tr_cs Y w h) H) (hS : va_S (tr_R Y w) s.heap H locs) (U : State) (hU : U.heap = H) (hW : s.WarmedH U.vm) : tr_Wo Y w h U := by
  subst hU
  exact ⟨hP, C.2.2.2.2.2.go hS hW⟩
variable {y : MethodName} {bytes : ByteArray} {maxL n idx : Nat} {ret : Option FieldType} {rm : Room} {As : List Value} {h1 : tr_H}
theorem tr_wv {K : String} (C : tr_Cx p s m args c cc nL own Y w) (hz : tr_Mv K y bytes maxL ret n) (hlk : Cond.methodLink own idx y ∈ tr_T) (hrc : rm.cells = 0) (hrs : rm.slots = 0) (hR : rm.frames + 1 ≤ R.frames ∧ 8 + (maxL + 11) + rm.locals ≤ R.locals) :
    CallW R s args own K idx y bytes maxL ret (Cond.code y bytes maxL ret :: tr_T) rm 0 0 n := by
  obtain ⟨hx, hb, hml, hown, hts, hG⟩ := C
  refine cwV n hts (tr_gi ?_) rfl hrc hrs hz.2.2.2.2 hR
  intro x hx1
  simp only [wsV, List.mem_append, List.mem_cons, List.not_mem_nil, or_false] at hx1
  rcases hx1 with (rfl | rfl | rfl | rfl) | rfl | hx1
  · exact hlk
  · exact hz.1
  · exact hz.2.1
  · exact hz.2.2.1
  · exact hz.2.2.2.1
  · exact hx1
theorem tr_ws (C : tr_Cx p s m args c cc nL own Y w) (hz : tr_Ms y bytes maxL ret n) (hlk : Cond.methodLink own idx y ∈ tr_T) (hrc : rm.cells = 0) (hrs : rm.slots = 0) (hR : rm.frames + 1 ≤ R.frames ∧ 8 + (maxL + 11) + rm.locals ≤ R.locals) :
    CallB R s args own idx y bytes maxL ret (Cond.code y bytes maxL ret :: tr_T) rm 0 0 n ∧ (Cond.static y).before args s = true := by
  obtain ⟨hx, hb, hml, hown, hts, hG⟩ := C
  refine ⟨callB_of n hts (tr_gi ?_) rfl hrc hrs (hts _ hz.2.1) (hts _ hlk) hz.2.2.2 hR, hts _ hz.1⟩
  intro x hx1
  rcases List.mem_cons.mp hx1 with rfl | hx1
  · exact hz.2.2.1
  · exact hx1
/-- the contract of a method that answers an int (or a boolean), a long, nothing -/
abbrev tr_Qi (Y : tr_Y) (w : tr_E) (r0 : Int32) (h1 : tr_H) : Array Value → State → Outcome → State → Prop := va_Qi (fun (r : Int32) (u : tr_H) => r = r0 ∧ u = h1) (fun u t => tr_Wo Y w u t) (tr_R Y w)
abbrev tr_Ql (Y : tr_Y) (w : tr_E) (r0 : Int64) (h1 : tr_H) : Array Value → State → Outcome → State → Prop := va_Ql (fun (r : Int64) (u : tr_H) => r = r0 ∧ u = h1) (fun u t => tr_Wo Y w u t) (tr_R Y w)
abbrev tr_Qv (Y : tr_Y) (w : tr_E) (h1 : tr_H) : Array Value → State → Outcome → State → Prop := va_Qv (fun (u : tr_H) => u = h1) (fun u t => tr_Wo Y w u t) (tr_R Y w)
theorem tr_cvi {K : String} {T : u_T} {i ci N : Nat} {fs : List Value} {st : List Value} {r0 : Int32} {lv : List (Nat × Value)} (C : tr_Cx p s m args c cc nL own Y w) (hP : va_P w.1 vwCl (tr_cs Y w h) H) (hS : va_S (tr_R Y w) s.heap H locs) (hl : lv_has ls nL lv)
    (hM : Met l y (Cond.code y bytes maxL ret :: tr_T) rm (va_Pc (.ref (tr_ad w i) :: As) (tr_Wo Y w h)) (tr_Qi Y w r0 h1) 0 0 (tr_R Y w)) (hz : tr_Mv K y bytes maxL ret n) (hlk : Cond.methodLink own idx y ∈ tr_T) (hi : i < Y.1) (he : Y.2 (tr_ad w) w.2.1 i (h.1 i) (h.2 i) = .inr (ci, fs)) (hc : vwCl[ci]? = some (K, T, N))
    (hrc : rm.cells = 0) (hrs : rm.slots = 0) (hR : rm.frames + 1 ≤ R.frames ∧ 8 + (maxL + 11) + rm.locals ≤ R.locals) (hn : As.length = n) (hst : st = As.reverse ++ .ref (tr_ad w i) :: rest) (hro : (rest.map fun v => v.category).sum ≤ 8) (hf : cells ≤ R.cells ∧ slots ≤ R.slots) (hdg : decode cc pc = .ok (.invokevirtual idx, 3))
    (kk : ∀ (H1 : Heap) (locs1 : List Loc), va_P w.1 vwCl (tr_cs Y w h1) H1 → va_S (tr_R Y w) s.heap H1 locs1 → W p l e R s m args below meth c H1 locs1 cells slots Q (F0 m (pc + 3) ls (.int r0 :: rest))) : W p l e R s m args below meth c H locs cells slots Q (F0 m pc ls st) := by
  subst hst
  refine va_calli (va_runV (As := As) (rest := rest) ⟨C.1, C.2.1, C.2.2.1, C.2.2.2.1, C.2.2.2.2.1⟩ hM (tr_wv C hz hlk hrc hrs hR) ⟨tr_Wo.blind, va_recv C.2.2.2.2.2.1 hP hc (by rw [tr_cs_at hi, he]), fun U hU hW => ⟨rfl, tr_pre C hP hS U hU hW⟩⟩ rfl hn hl.1 rfl (lv_room hro) hdg ⟨hf.1, hf.2⟩) hS (fun q _ h => h) (fun q h => h) (fun r u t H1 locs1 ht hvm hw hB hz1 hk1 hS1 => ?_)
  obtain ⟨rfl, rfl⟩ := hw
  exact kk H1 locs1 (by rw [← ht]; exact hB.1) hS1
theorem tr_cvv {K : String} {T : u_T} {i ci N : Nat} {fs : List Value} {st : List Value} {lv : List (Nat × Value)} (C : tr_Cx p s m args c cc nL own Y w) (hP : va_P w.1 vwCl (tr_cs Y w h) H) (hS : va_S (tr_R Y w) s.heap H locs) (hl : lv_has ls nL lv)
    (hM : Met l y (Cond.code y bytes maxL ret :: tr_T) rm (va_Pc (.ref (tr_ad w i) :: As) (tr_Wo Y w h)) (tr_Qv Y w h1) 0 0 (tr_R Y w)) (hz : tr_Mv K y bytes maxL ret n) (hlk : Cond.methodLink own idx y ∈ tr_T) (hi : i < Y.1) (he : Y.2 (tr_ad w) w.2.1 i (h.1 i) (h.2 i) = .inr (ci, fs)) (hc : vwCl[ci]? = some (K, T, N))
    (hrc : rm.cells = 0) (hrs : rm.slots = 0) (hR : rm.frames + 1 ≤ R.frames ∧ 8 + (maxL + 11) + rm.locals ≤ R.locals) (hn : As.length = n) (hst : st = As.reverse ++ .ref (tr_ad w i) :: rest) (hro : (rest.map fun v => v.category).sum ≤ 8) (hf : cells ≤ R.cells ∧ slots ≤ R.slots) (hdg : decode cc pc = .ok (.invokevirtual idx, 3))
    (kk : ∀ (H1 : Heap) (locs1 : List Loc), va_P w.1 vwCl (tr_cs Y w h1) H1 → va_S (tr_R Y w) s.heap H1 locs1 → W p l e R s m args below meth c H1 locs1 cells slots Q (F0 m (pc + 3) ls rest)) : W p l e R s m args below meth c H locs cells slots Q (F0 m pc ls st) := by
  subst hst
  refine va_callv (va_runV (As := As) (rest := rest) ⟨C.1, C.2.1, C.2.2.1, C.2.2.2.1, C.2.2.2.2.1⟩ hM (tr_wv C hz hlk hrc hrs hR) ⟨tr_Wo.blind, va_recv C.2.2.2.2.2.1 hP hc (by rw [tr_cs_at hi, he]), fun U hU hW => ⟨rfl, tr_pre C hP hS U hU hW⟩⟩ rfl hn hl.1 rfl (lv_room hro) hdg ⟨hf.1, hf.2⟩) hS (fun q _ h => h) (fun q h => h) (fun u t H1 locs1 ht hvm hw hB hz1 hk1 hS1 => ?_)
  subst hw
  exact kk H1 locs1 (by rw [← ht]; exact hB.1) hS1
theorem tr_csi {st : List Value} {r0 : Int32} {lv : List (Nat × Value)} (C : tr_Cx p s m args c cc nL own Y w) (hP : va_P w.1 vwCl (tr_cs Y w h) H) (hS : va_S (tr_R Y w) s.heap H locs) (hl : lv_has ls nL lv)
    (hM : Met l y (Cond.code y bytes maxL ret :: tr_T) rm (va_Pc As (tr_Wo Y w h)) (tr_Qi Y w r0 h1) 0 0 (tr_R Y w)) (hz : tr_Ms y bytes maxL ret n) (hlk : Cond.methodLink own idx y ∈ tr_T)
    (hrc : rm.cells = 0) (hrs : rm.slots = 0) (hR : rm.frames + 1 ≤ R.frames ∧ 8 + (maxL + 11) + rm.locals ≤ R.locals) (hn : As.length = n) (hst : st = As.reverse ++ rest) (hro : (rest.map fun v => v.category).sum ≤ 8) (hf : cells ≤ R.cells ∧ slots ≤ R.slots) (hdg : decode cc pc = .ok (.invokestatic idx, 3))
    (kk : ∀ (H1 : Heap) (locs1 : List Loc), va_P w.1 vwCl (tr_cs Y w h1) H1 → va_S (tr_R Y w) s.heap H1 locs1 → W p l e R s m args below meth c H1 locs1 cells slots Q (F0 m (pc + 3) ls (.int r0 :: rest))) : W p l e R s m args below meth c H locs cells slots Q (F0 m pc ls st) := by
  subst hst
  refine va_calli (va_runS (As := As) (rest := rest) ⟨C.1, C.2.1, C.2.2.1, C.2.2.2.1, C.2.2.2.2.1⟩ hM (tr_ws C hz hlk hrc hrs hR) ⟨tr_Wo.blind, fun U hU hW => ⟨rfl, tr_pre C hP hS U hU hW⟩⟩ rfl hn hl.1 rfl (lv_room hro) hdg ⟨hf.1, hf.2⟩) hS (fun q _ h => h) (fun q h => h) (fun r u t H1 locs1 ht hvm hw hB hz1 hk1 hS1 => ?_)
  obtain ⟨rfl, rfl⟩ := hw
  exact kk H1 locs1 (by rw [← ht]; exact hB.1) hS1
theorem tr_csl {st : List Value} {r0 : Int64} {lv : List (Nat × Value)} (C : tr_Cx p s m args c cc nL own Y w) (hP : va_P w.1 vwCl (tr_cs Y w h) H) (hS : va_S (tr_R Y w) s.heap H locs) (hl : lv_has ls nL lv)
    (hM : Met l y (Cond.code y bytes maxL ret :: tr_T) rm (va_Pc As (tr_Wo Y w h)) (tr_Ql Y w r0 h1) 0 0 (tr_R Y w)) (hz : tr_Ms y bytes maxL ret n) (hlk : Cond.methodLink own idx y ∈ tr_T)
    (hrc : rm.cells = 0) (hrs : rm.slots = 0) (hR : rm.frames + 1 ≤ R.frames ∧ 8 + (maxL + 11) + rm.locals ≤ R.locals) (hn : As.length = n) (hst : st = As.reverse ++ rest) (hro : (rest.map fun v => v.category).sum ≤ 8) (hf : cells ≤ R.cells ∧ slots ≤ R.slots) (hdg : decode cc pc = .ok (.invokestatic idx, 3))
    (kk : ∀ (H1 : Heap) (locs1 : List Loc), va_P w.1 vwCl (tr_cs Y w h1) H1 → va_S (tr_R Y w) s.heap H1 locs1 → W p l e R s m args below meth c H1 locs1 cells slots Q (F0 m (pc + 3) ls (.long r0 :: rest))) : W p l e R s m args below meth c H locs cells slots Q (F0 m pc ls st) := by
  subst hst
  refine va_calll (va_runS (As := As) (rest := rest) ⟨C.1, C.2.1, C.2.2.1, C.2.2.2.1, C.2.2.2.2.1⟩ hM (tr_ws C hz hlk hrc hrs hR) ⟨tr_Wo.blind, fun U hU hW => ⟨rfl, tr_pre C hP hS U hU hW⟩⟩ rfl hn hl.1 rfl (lv_room hro) hdg ⟨hf.1, hf.2⟩) hS (fun q _ h => h) (fun q h => h) (fun r u t H1 locs1 ht hvm hw hB hz1 hk1 hS1 => ?_)
  obtain ⟨rfl, rfl⟩ := hw
  exact kk H1 locs1 (by rw [← ht]; exact hB.1) hS1
theorem tr_csv {st : List Value} {lv : List (Nat × Value)} (C : tr_Cx p s m args c cc nL own Y w) (hP : va_P w.1 vwCl (tr_cs Y w h) H) (hS : va_S (tr_R Y w) s.heap H locs) (hl : lv_has ls nL lv)
    (hM : Met l y (Cond.code y bytes maxL ret :: tr_T) rm (va_Pc As (tr_Wo Y w h)) (tr_Qv Y w h1) 0 0 (tr_R Y w)) (hz : tr_Ms y bytes maxL ret n) (hlk : Cond.methodLink own idx y ∈ tr_T)
    (hrc : rm.cells = 0) (hrs : rm.slots = 0) (hR : rm.frames + 1 ≤ R.frames ∧ 8 + (maxL + 11) + rm.locals ≤ R.locals) (hn : As.length = n) (hst : st = As.reverse ++ rest) (hro : (rest.map fun v => v.category).sum ≤ 8) (hf : cells ≤ R.cells ∧ slots ≤ R.slots) (hdg : decode cc pc = .ok (.invokestatic idx, 3))
    (kk : ∀ (H1 : Heap) (locs1 : List Loc), va_P w.1 vwCl (tr_cs Y w h1) H1 → va_S (tr_R Y w) s.heap H1 locs1 → W p l e R s m args below meth c H1 locs1 cells slots Q (F0 m (pc + 3) ls rest)) : W p l e R s m args below meth c H locs cells slots Q (F0 m pc ls st) := by
  subst hst
  refine va_callv (va_runS (As := As) (rest := rest) ⟨C.1, C.2.1, C.2.2.1, C.2.2.2.1, C.2.2.2.2.1⟩ hM (tr_ws C hz hlk hrc hrs hR) ⟨tr_Wo.blind, fun U hU hW => ⟨rfl, tr_pre C hP hS U hU hW⟩⟩ rfl hn hl.1 rfl (lv_room hro) hdg ⟨hf.1, hf.2⟩) hS (fun q _ h => h) (fun q h => h) (fun u t H1 locs1 ht hvm hw hB hz1 hk1 hS1 => ?_)
  subst hw
  exact kk H1 locs1 (by rw [← ht]; exact hB.1) hS1
/-! ends -/
theorem tr_iret {r0 v : Int32} (C : tr_Cx p s m args c cc nL own Y w) (hP : va_P w.1 vwCl (tr_cs Y w h) H) (hS : va_S (tr_R Y w) s.heap H locs) (hr : meth.sig.returnType = some .int) (hlocks : meth.locks = false) (hv : (v, h) = (r0, h1)) (hdg : decode cc pc = .ok (.ireturn, 1)) :
    W p l e R s m args below meth c H locs cells slots (MQ below (tr_Qi Y w r0 h1) args s cells slots (tr_R Y w)) (F0 m pc ls [.int v]) := by
  cases hv
  exact W.iret C.1 C.2.1 hr (fun t ht hW => ⟨⟨_, _, rfl, ⟨rfl, rfl⟩, tr_pre C hP hS t ht hW⟩, hS.F ht⟩) hS.2.2 hdg hlocks
theorem tr_zret {r0 v : Int32} (C : tr_Cx p s m args c cc nL own Y w) (hP : va_P w.1 vwCl (tr_cs Y w h) H) (hS : va_S (tr_R Y w) s.heap H locs) (hr : meth.sig.returnType = some .boolean) (hlocks : meth.locks = false) (hn : narrow .boolean (.int v) = .int v) (hv : (v, h) = (r0, h1)) (hdg : decode cc pc = .ok (.ireturn, 1)) :
    W p l e R s m args below meth c H locs cells slots (MQ below (tr_Qi Y w r0 h1) args s cells slots (tr_R Y w)) (F0 m pc ls [.int v]) := by
  cases hv
  exact W.zret C.1 C.2.1 hr hn (fun t ht hW => ⟨⟨_, _, rfl, ⟨rfl, rfl⟩, tr_pre C hP hS t ht hW⟩, hS.F ht⟩) hS.2.2 hdg hlocks
theorem tr_lret {r0 v : Int64} (C : tr_Cx p s m args c cc nL own Y w) (hP : va_P w.1 vwCl (tr_cs Y w h) H) (hS : va_S (tr_R Y w) s.heap H locs) (hr : meth.sig.returnType = some .long) (hlocks : meth.locks = false) (hv : (v, h) = (r0, h1)) (hdg : decode cc pc = .ok (.lreturn, 1)) :
    W p l e R s m args below meth c H locs cells slots (MQ below (tr_Ql Y w r0 h1) args s cells slots (tr_R Y w)) (F0 m pc ls [.long v]) := by
  cases hv
  exact W.lret C.1 C.2.1 hr (fun t ht hW => ⟨⟨_, _, rfl, ⟨rfl, rfl⟩, tr_pre C hP hS t ht hW⟩, hS.F ht⟩) hS.2.2 hdg hlocks
theorem tr_vret (C : tr_Cx p s m args c cc nL own Y w) (hP : va_P w.1 vwCl (tr_cs Y w h) H) (hS : va_S (tr_R Y w) s.heap H locs) (hr : meth.sig.returnType = none) (hlocks : meth.locks = false) (hv : h = h1) (hdg : decode cc pc = .ok (.return_, 1)) :
    W p l e R s m args below meth c H locs cells slots (MQ below (tr_Qv Y w h1) args s cells slots (tr_R Y w)) (F0 m pc ls []) := by
  subst hv
  exact W.vret C.1 C.2.1 hr (fun t ht hW => ⟨⟨_, rfl, rfl, tr_pre C hP hS t ht hW⟩, hS.F ht⟩) hS.2.2 hdg hlocks
end TRR
/-- a contract's beginning -/
theorem tr_start {l : Launch} {y : MethodName} {cc : ByteArray} {maxL : Nat} {ret : Option FieldType} {rm : Room} {Y : tr_Y} {w : tr_E} {h : tr_H} {av : List Value} {Qc : Array Value → State → Outcome → State → Prop} (hy : plainName y.cls = true) (hav : av.length ≤ av.length)
    (body : ∀ p e s m args below meth c, tr_Cx p s m args c cc maxL y.cls Y w → meth.sig.returnType = ret → meth.locks = false → args = av.toArray → va_P w.1 vwCl (tr_cs Y w h) s.heap →
      W p l e rm s m args below meth c s.heap [] 0 0 (MQ below Qc args s 0 0 (tr_R Y w)) (entryFrame m av.toArray maxL)) :
    Met l y (Cond.code y cc maxL ret :: tr_T) rm (va_Pc av (tr_Wo Y w h)) Qc 0 0 (tr_R Y w) := by
  refine Met.ofW (cc := cc) (maxL := maxL) (ret := ret) hy rfl ?_
  intro p e s m args below meth c s₁ B hml hv
  obtain ⟨rfl, hP, hG⟩ := hv
  have hts := atoms_spec (ws := Cond.code y cc maxL ret :: tr_T) B.pre
  exact body p e s m av.toArray below meth c ⟨B.exec, B.bytes, hml, findClass_of_methodNamed B.named, fun x hx => hts x (List.mem_cons_of_mem _ hx), hG⟩ B.returns B.notSynchronized rfl hP
end
section
/-! the two sides; words of the tables by their places; rows of the fields -/
def tr_cx (ad : Nat → Nat) (cA : Nat → ClassId) : Nat → (Nat → Int32) → (Nat → Int64) → va_E
  | 0, f, g => .inr (7, [.ref (ad 1), .ref (ad 2), .ref (ad 4), .ref (ad 10), .ref (ad 11), .ref (ad 12), .ref (ad 13), .ref (ad 17), .ref (ad 21), .ref (ad 24), .ref (ad 27), .int (f 11), .long (g 12)])
  | 1, f, _ => .inl (cA 0, 64, .inl f)
  | 2, f, _ => .inr (2, [.ref (ad 3), .int (f 1)])
  | 3, f, _ => .inl (cA 0, 36, .inl f)
  | 4, f, _ => .inr (2, [.ref (ad 5), .int (f 1)])
  | 5, f, _ => .inl (cA 0, 36, .inl f)
  | 6, f, _ => .inr (2, [.ref (ad 7), .int (f 1)])
  | 7, f, _ => .inl (cA 0, 36, .inl f)
  | 8, f, _ => .inr (2, [.ref (ad 9), .int (f 1)])
  | 9, f, _ => .inl (cA 0, 36, .inl f)
  | 10, _, _ => .inl (cA 2, 2, .inr (.inr (.inr (.inr (fun k => some (ad (6 + 2 * k)))))))
  | 11, f, _ => .inl (cA 1, 2, .inl f)
  | 12, f, _ => .inr (3, [.int (f 0), .int (f 1)])
  | 13, f, _ => .inr (1, [.ref (ad 14), .ref (ad 15), .ref (ad 16), .int (f 3)])
  | 14, f, _ => .inl (cA 0, 14, .inl f)
  | 15, f, _ => .inl (cA 0, 14, .inl f)
  | 16, f, _ => .inl (cA 0, 14, .inl f)
  | 17, f, _ => .inr (5, [.ref (ad 18), .ref (ad 19), .ref (ad 20), .int (f 3)])
  | 18, f, _ => .inl (cA 0, 6, .inl f)
  | 19, f, _ => .inl (cA 0, 6, .inl f)
  | 20, f, _ => .inl (cA 0, 6, .inl f)
  | 21, f, _ => .inr (6, [.ref (ad 22), .ref (ad 23), .int (f 2)])
  | 22, f, _ => .inl (cA 0, 42, .inl f)
  | 23, f, _ => .inl (cA 0, 36, .inl f)
  | 24, f, _ => .inr (0, [.ref (ad 25), .ref (ad 26), .int (f 2)])
  | 25, f, _ => .inl (cA 0, 6, .inl f)
  | 26, f, _ => .inl (cA 0, 246, .inl f)
  | 27, f, _ => .inr (4, [.ref (ad 28), .ref (ad 29), .ref (ad 30), .int (f 3)])
  | 28, f, _ => .inl (cA 0, 384, .inl f)
  | 29, f, _ => .inl (cA 0, 384, .inl f)
  | 30, f, _ => .inl (cA 0, 64, .inl f)
  | _, f, _ => .inl (cA 0, 0, .inl f)
def tr_cm (ad : Nat → Nat) (cA : Nat → ClassId) : Nat → (Nat → Int32) → (Nat → Int64) → va_E
  | 0, f, g => .inr (8, [.int (f 0), .ref (ad 1), .int (f 2), .int (f 3), .int (f 4), .ref (ad 2), .ref (ad 3), .ref (ad 4), .ref (ad 5), .int (f 9), .ref (ad 6), .ref (ad 7), .int (f 12), .ref (ad 8), .ref (ad 9), .ref (ad 10), .long (g 16), .int (f 17), .int (f 18), .int (f 19), .long (g 20), .int (f 21), .long (g 22), .ref (ad 11), .ref (ad 12), .ref (ad 13), .ref (ad 14), .ref (ad 15), .int (f 28), .int (f 29), .ref (ad 16)])
  | 1, f, _ => .inl (cA 0, 64, .inl f)
  | 2, f, _ => .inl (cA 0, 37, .inl f)
  | 3, f, _ => .inl (cA 0, 37, .inl f)
  | 4, f, _ => .inl (cA 0, 37, .inl f)
  | 5, f, _ => .inl (cA 0, 518, .inl f)
  | 6, f, _ => .inl (cA 0, 74, .inl f)
  | 7, f, _ => .inl (cA 1, 2, .inl f)
  | 8, f, _ => .inl (cA 0, 6, .inl f)
  | 9, f, _ => .inl (cA 0, 6, .inl f)
  | 10, f, _ => .inl (cA 0, 6, .inl f)
  | 11, f, _ => .inl (cA 0, 6, .inl f)
  | 12, f, _ => .inl (cA 0, 6, .inl f)
  | 13, f, _ => .inl (cA 0, 6, .inl f)
  | 14, f, _ => .inl (cA 0, 6, .inl f)
  | 15, f, _ => .inl (cA 0, 6, .inl f)
  | 16, f, _ => .inl (cA 0, 64, .inl f)
  | _, f, _ => .inl (cA 0, 0, .inl f)
abbrev tr_X : tr_Y := (31, tr_cx)
abbrev tr_M : tr_Y := (17, tr_cm)
theorem ar_X_1 (w : tr_E) : tr_Ar tr_X w 1 64 := ⟨by decide, fun _ _ => rfl⟩
theorem ar_X_3 (w : tr_E) : tr_Ar tr_X w 3 36 := ⟨by decide, fun _ _ => rfl⟩
theorem ar_X_5 (w : tr_E) : tr_Ar tr_X w 5 36 := ⟨by decide, fun _ _ => rfl⟩
theorem ar_X_7 (w : tr_E) : tr_Ar tr_X w 7 36 := ⟨by decide, fun _ _ => rfl⟩
theorem ar_X_9 (w : tr_E) : tr_Ar tr_X w 9 36 := ⟨by decide, fun _ _ => rfl⟩
theorem ar_X_11 (w : tr_E) : tr_Az tr_X w 11 2 := ⟨by decide, fun _ _ => rfl⟩
theorem ar_X_14 (w : tr_E) : tr_Ar tr_X w 14 14 := ⟨by decide, fun _ _ => rfl⟩
theorem ar_X_15 (w : tr_E) : tr_Ar tr_X w 15 14 := ⟨by decide, fun _ _ => rfl⟩
theorem ar_X_16 (w : tr_E) : tr_Ar tr_X w 16 14 := ⟨by decide, fun _ _ => rfl⟩
theorem ar_X_18 (w : tr_E) : tr_Ar tr_X w 18 6 := ⟨by decide, fun _ _ => rfl⟩
theorem ar_X_19 (w : tr_E) : tr_Ar tr_X w 19 6 := ⟨by decide, fun _ _ => rfl⟩
theorem ar_X_20 (w : tr_E) : tr_Ar tr_X w 20 6 := ⟨by decide, fun _ _ => rfl⟩
theorem ar_X_22 (w : tr_E) : tr_Ar tr_X w 22 42 := ⟨by decide, fun _ _ => rfl⟩
theorem ar_X_23 (w : tr_E) : tr_Ar tr_X w 23 36 := ⟨by decide, fun _ _ => rfl⟩
theorem ar_X_25 (w : tr_E) : tr_Ar tr_X w 25 6 := ⟨by decide, fun _ _ => rfl⟩
theorem ar_X_26 (w : tr_E) : tr_Ar tr_X w 26 246 := ⟨by decide, fun _ _ => rfl⟩
theorem ar_X_28 (w : tr_E) : tr_Ar tr_X w 28 384 := ⟨by decide, fun _ _ => rfl⟩
theorem ar_X_29 (w : tr_E) : tr_Ar tr_X w 29 384 := ⟨by decide, fun _ _ => rfl⟩
theorem ar_X_30 (w : tr_E) : tr_Ar tr_X w 30 64 := ⟨by decide, fun _ _ => rfl⟩
theorem ar_M_1 (w : tr_E) : tr_Ar tr_M w 1 64 := ⟨by decide, fun _ _ => rfl⟩
theorem ar_M_2 (w : tr_E) : tr_Ar tr_M w 2 37 := ⟨by decide, fun _ _ => rfl⟩
theorem ar_M_3 (w : tr_E) : tr_Ar tr_M w 3 37 := ⟨by decide, fun _ _ => rfl⟩
theorem ar_M_4 (w : tr_E) : tr_Ar tr_M w 4 37 := ⟨by decide, fun _ _ => rfl⟩
theorem ar_M_5 (w : tr_E) : tr_Ar tr_M w 5 518 := ⟨by decide, fun _ _ => rfl⟩
theorem ar_M_6 (w : tr_E) : tr_Ar tr_M w 6 74 := ⟨by decide, fun _ _ => rfl⟩
theorem ar_M_7 (w : tr_E) : tr_Az tr_M w 7 2 := ⟨by decide, fun _ _ => rfl⟩
theorem ar_M_8 (w : tr_E) : tr_Ar tr_M w 8 6 := ⟨by decide, fun _ _ => rfl⟩
theorem ar_M_9 (w : tr_E) : tr_Ar tr_M w 9 6 := ⟨by decide, fun _ _ => rfl⟩
theorem ar_M_10 (w : tr_E) : tr_Ar tr_M w 10 6 := ⟨by decide, fun _ _ => rfl⟩
theorem ar_M_11 (w : tr_E) : tr_Ar tr_M w 11 6 := ⟨by decide, fun _ _ => rfl⟩
theorem ar_M_12 (w : tr_E) : tr_Ar tr_M w 12 6 := ⟨by decide, fun _ _ => rfl⟩
theorem ar_M_13 (w : tr_E) : tr_Ar tr_M w 13 6 := ⟨by decide, fun _ _ => rfl⟩
theorem ar_M_14 (w : tr_E) : tr_Ar tr_M w 14 6 := ⟨by decide, fun _ _ => rfl⟩
theorem ar_M_15 (w : tr_E) : tr_Ar tr_M w 15 6 := ⟨by decide, fun _ _ => rfl⟩
theorem ar_M_16 (w : tr_E) : tr_Ar tr_M w 16 64 := ⟨by decide, fun _ _ => rfl⟩
def tr_net (i : Nat) : Prop := i = 2 ∨ i = 4 ∨ i = 6 ∨ i = 8
theorem tr_net_2 : tr_net 2 := Or.inl rfl
theorem tr_net_4 : tr_net 4 := Or.inr (Or.inl rfl)
theorem tr_net_lt {i : Nat} (h : tr_net i) : i < tr_X.1 := by rcases h with rfl | rfl | rfl | rfl <;> decide
theorem tr_net_cx {i : Nat} (h : tr_net i) (ad : Nat → Nat) (cA : Nat → ClassId) (f : Nat → Int32) (g : Nat → Int64) : tr_cx ad cA i f g = .inr (2, [.ref (ad (i + 1)), .int (f 1)]) := by rcases h with rfl | rfl | rfl | rfl <;> rfl
theorem tr_net_ar {i : Nat} (h : tr_net i) (w : tr_E) : tr_Ar tr_X w (i + 1) 36 := by rcases h with rfl | rfl | rfl | rfl <;> exact ⟨by decide, fun _ _ => rfl⟩
def tr_pg (i : Nat) : Prop := i = 2 ∨ i = 3 ∨ i = 4
theorem tr_pg_2 : tr_pg 2 := Or.inl rfl
theorem tr_pg_3 : tr_pg 3 := Or.inr (Or.inl rfl)
theorem tr_pg_4 : tr_pg 4 := Or.inr (Or.inr rfl)
theorem tr_pg_ar {i : Nat} (h : tr_pg i) (w : tr_E) : tr_Ar tr_M w i 37 := by rcases h with rfl | rfl | rfl <;> exact ⟨by decide, fun _ _ => rfl⟩
theorem tr_net_sl {x : Int32} (h : vp_in x 2) : tr_net (6 + 2 * x.toNatClampNeg) := by
  have h1 : x.toNatClampNeg < 2 := Nat.not_le.mp fun q => h (Or.inr q)
  rcases (show x.toNatClampNeg = 0 ∨ x.toNatClampNeg = 1 by omega) with e | e <;> rw [e] <;> simp [tr_net]
set_option maxRecDepth 20000 in
theorem hinX0 : ∀ x ∈ u_ws RX0 TX0 3, x ∈ tr_T := by decide +kernel
set_option maxRecDepth 20000 in
theorem hinX1 : ∀ x ∈ u_ws RX1 TX1 4, x ∈ tr_T := by decide +kernel
set_option maxRecDepth 20000 in
theorem hinX2 : ∀ x ∈ u_ws RX2 TX2 2, x ∈ tr_T := by decide +kernel
set_option maxRecDepth 20000 in
theorem hinX3 : ∀ x ∈ u_ws RX3 TX3 2, x ∈ tr_T := by decide +kernel
set_option maxRecDepth 20000 in
theorem hinX4 : ∀ x ∈ u_ws RX4 TX4 4, x ∈ tr_T := by decide +kernel
set_option maxRecDepth 20000 in
theorem hinX5 : ∀ x ∈ u_ws RX5 TX5 4, x ∈ tr_T := by decide +kernel
set_option maxRecDepth 20000 in
theorem hinX6 : ∀ x ∈ u_ws RX6 TX6 3, x ∈ tr_T := by decide +kernel
set_option maxRecDepth 20000 in
theorem hinX7 : ∀ x ∈ u_ws RX7 TX7 13, x ∈ tr_T := by decide +kernel
set_option maxRecDepth 20000 in
theorem hinX8 : ∀ x ∈ u_ws RX8 TX8 31, x ∈ tr_T := by decide +kernel
theorem ml_X0_22 : Cond.methodLink RX0 22 yJ7_fill_53178 ∈ tr_T := tr_in 443 (by decide +kernel) rfl
theorem ml_X0_33 : Cond.methodLink RX0 33 yX2_of ∈ tr_T := tr_in 444 (by decide +kernel) rfl
theorem ml_X0_37 : Cond.methodLink RX0 37 Lib.Math.max.name ∈ tr_T := tr_in 445 (by decide +kernel) rfl
theorem ml_X0_42 : Cond.methodLink RX0 42 yX0_timeOf ∈ tr_T := tr_in 458 (by decide +kernel) rfl
theorem ml_X0_47 : Cond.methodLink RX0 47 yX0_leastSpare ∈ tr_T := tr_in 468 (by decide +kernel) rfl
theorem ml_X0_51 : Cond.methodLink RX0 51 yX0_spareOf ∈ tr_T := tr_in 472 (by decide +kernel) rfl
theorem ml_X0_54 : Cond.methodLink RX0 54 Lib.Math.min.name ∈ tr_T := tr_in 473 (by decide +kernel) rfl
theorem ml_X0_57 : Cond.methodLink RX0 57 yX0_lateness ∈ tr_T := tr_in 490 (by decide +kernel) rfl
theorem ml_X1_25 : Cond.methodLink RX1 25 yX1_forgetFirst ∈ tr_T := tr_in 395 (by decide +kernel) rfl
theorem ml_X1_28 : Cond.methodLink RX1 28 yX2_lay ∈ tr_T := tr_in 416 (by decide +kernel) rfl
theorem ml_X2_19 : Cond.methodLink RX2 19 yJ7_fill_53178 ∈ tr_T := tr_in 69 (by decide +kernel) rfl
theorem ml_X2_25 : Cond.methodLink RX2 25 yX2_has ∈ tr_T := tr_in 278 (by decide +kernel) rfl
theorem ml_X2_29 : Cond.methodLink RX2 29 yX2_of ∈ tr_T := tr_in 269 (by decide +kernel) rfl
theorem ml_X2_33 : Cond.methodLink RX2 33 Lib.Math.min.name ∈ tr_T := tr_in 251 (by decide +kernel) rfl
theorem ml_X2_38 : Cond.methodLink RX2 38 Lib.Math.max.name ∈ tr_T := tr_in 254 (by decide +kernel) rfl
theorem ml_X2_41 : Cond.methodLink RX2 41 arraycopyName ∈ tr_T := tr_in 287 (by decide +kernel) rfl
theorem ml_X3_9 : Cond.methodLink RX3 9 yX2_begin ∈ tr_T := tr_in 247 (by decide +kernel) rfl
theorem ml_X3_15 : Cond.methodLink RX3 15 yX3_takes ∈ tr_T := tr_in 257 (by decide +kernel) rfl
theorem ml_X3_25 : Cond.methodLink RX3 25 yX2_has ∈ tr_T := tr_in 261 (by decide +kernel) rfl
theorem ml_X3_29 : Cond.methodLink RX3 29 yX2_leadsToAll ∈ tr_T := tr_in 265 (by decide +kernel) rfl
theorem ml_X3_35 : Cond.methodLink RX3 35 yX2_of ∈ tr_T := tr_in 273 (by decide +kernel) rfl
theorem ml_X3_39 : Cond.methodLink RX3 39 yX2_lay ∈ tr_T := tr_in 274 (by decide +kernel) rfl
theorem ml_X4_21 : Cond.methodLink RX4 21 yJ7_fill_53178 ∈ tr_T := tr_in 306 (by decide +kernel) rfl
theorem ml_X4_36 : Cond.methodLink RX4 36 yX4_goOn ∈ tr_T := tr_in 307 (by decide +kernel) rfl
theorem ml_X4_40 : Cond.methodLink RX4 40 yX4_takeWithin ∈ tr_T := tr_in 324 (by decide +kernel) rfl
theorem ml_X4_44 : Cond.methodLink RX4 44 yX4_lowestOf ∈ tr_T := tr_in 311 (by decide +kernel) rfl
theorem ml_X4_48 : Cond.methodLink RX4 48 yX2_of ∈ tr_T := tr_in 314 (by decide +kernel) rfl
theorem ml_X4_55 : Cond.methodLink RX4 55 yJ6_bitCount_0f7a4 ∈ tr_T := tr_in 317 (by decide +kernel) rfl
theorem ml_X4_60 : Cond.methodLink RX4 60 Lib.Math.max.name ∈ tr_T := tr_in 323 (by decide +kernel) rfl
theorem ml_X5_25 : Cond.methodLink RX5 25 yX0_lateness ∈ tr_T := tr_in 549 (by decide +kernel) rfl
theorem ml_X6_18 : Cond.methodLink RX6 18 yX6_slowest ∈ tr_T := tr_in 336 (by decide +kernel) rfl
theorem ml_X6_28 : Cond.methodLink RX6 28 yX6_longest ∈ tr_T := tr_in 340 (by decide +kernel) rfl
theorem ml_X6_32 : Cond.methodLink RX6 32 yX6_leastMean ∈ tr_T := tr_in 346 (by decide +kernel) rfl
theorem ml_X6_36 : Cond.methodLink RX6 36 Lib.Math.max.name ∈ tr_T := tr_in 345 (by decide +kernel) rfl
theorem ml_X6_41 : Cond.methodLink RX6 41 yX2_of ∈ tr_T := tr_in 344 (by decide +kernel) rfl
theorem ml_X6_48 : Cond.methodLink RX6 48 Lib.Math.min.name ∈ tr_T := tr_in 352 (by decide +kernel) rfl
theorem ml_X6_54 : Cond.methodLink RX6 54 yX6_gainOf ∈ tr_T := tr_in 353 (by decide +kernel) rfl
theorem ml_X6_57 : Cond.methodLink RX6 57 yX6_join ∈ tr_T := tr_in 358 (by decide +kernel) rfl
theorem ml_X6_62 : Cond.methodLink RX6 62 yX6_comesBack ∈ tr_T := tr_in 371 (by decide +kernel) rfl
theorem ml_X7_77 : Cond.methodLink RX7 77 yX3_read ∈ tr_T := tr_in 243 (by decide +kernel) rfl
theorem ml_X7_81 : Cond.methodLink RX7 81 yX2_copyFrom ∈ tr_T := tr_in 283 (by decide +kernel) rfl
theorem ml_X7_85 : Cond.methodLink RX7 85 yX1_forget ∈ tr_T := tr_in 290 (by decide +kernel) rfl
theorem ml_X7_88 : Cond.methodLink RX7 88 yX2_waits ∈ tr_T := tr_in 294 (by decide +kernel) rfl
theorem ml_X7_95 : Cond.methodLink RX7 95 yX4_fill ∈ tr_T := tr_in 302 (by decide +kernel) rfl
theorem ml_X7_101 : Cond.methodLink RX7 101 yX7_aboutEachWait ∈ tr_T := tr_in 328 (by decide +kernel) rfl
theorem ml_X7_105 : Cond.methodLink RX7 105 yX7_leastPeriod ∈ tr_T := tr_in 372 (by decide +kernel) rfl
theorem ml_X7_112 : Cond.methodLink RX7 112 yX2_has ∈ tr_T := tr_in 382 (by decide +kernel) rfl
theorem ml_X7_116 : Cond.methodLink RX7 116 yX2_of ∈ tr_T := tr_in 362 (by decide +kernel) rfl
theorem ml_X7_120 : Cond.methodLink RX7 120 yX7_change ∈ tr_T := tr_in 387 (by decide +kernel) rfl
theorem ml_X7_124 : Cond.methodLink RX7 124 yX1_takeBack ∈ tr_T := tr_in 412 (by decide +kernel) rfl
theorem ml_X7_127 : Cond.methodLink RX7 127 yX6_slowest ∈ tr_T := tr_in 376 (by decide +kernel) rfl
theorem ml_X7_131 : Cond.methodLink RX7 131 yX7_told ∈ tr_T := tr_in 421 (by decide +kernel) rfl
theorem ml_X7_135 : Cond.methodLink RX7 135 yX6_compare ∈ tr_T := tr_in 332 (by decide +kernel) rfl
theorem ml_X7_138 : Cond.methodLink RX7 138 yX6_isCritical ∈ tr_T := tr_in 367 (by decide +kernel) rfl
theorem ml_X7_142 : Cond.methodLink RX7 142 yX6_isKept ∈ tr_T := tr_in 435 (by decide +kernel) rfl
theorem ml_X7_146 : Cond.methodLink RX7 146 yX0_settle ∈ tr_T := tr_in 439 (by decide +kernel) rfl
theorem ml_X7_150 : Cond.methodLink RX7 150 yX0_timeOf ∈ tr_T := tr_in 446 (by decide +kernel) rfl
theorem ml_X7_153 : Cond.methodLink RX7 153 yX0_spareOf ∈ tr_T := tr_in 454 (by decide +kernel) rfl
theorem ml_X7_157 : Cond.methodLink RX7 157 yX0_spread ∈ tr_T := tr_in 463 (by decide +kernel) rfl
theorem ml_X7_161 : Cond.methodLink RX7 161 yX0_lateness ∈ tr_T := tr_in 474 (by decide +kernel) rfl
theorem ml_X7_164 : Cond.methodLink RX7 164 yX7_lastsUntil ∈ tr_T := tr_in 482 (by decide +kernel) rfl
theorem ml_X7_169 : Cond.methodLink RX7 169 yX2_lay ∈ tr_T := tr_in 399 (by decide +kernel) rfl
theorem ml_X7_177 : Cond.methodLink RX7 177 yX7_figuresOf ∈ tr_T := tr_in 502 (by decide +kernel) rfl
theorem ml_X7_181 : Cond.methodLink RX7 181 yX7_holds ∈ tr_T := tr_in 506 (by decide +kernel) rfl
theorem ml_X7_187 : Cond.methodLink RX7 187 yX4_added ∈ tr_T := tr_in 524 (by decide +kernel) rfl
theorem ml_X7_190 : Cond.methodLink RX7 190 yX5_add ∈ tr_T := tr_in 533 (by decide +kernel) rfl
theorem ml_X7_193 : Cond.methodLink RX7 193 yX5_fits ∈ tr_T := tr_in 545 (by decide +kernel) rfl
theorem ml_X7_205 : Cond.methodLink RX7 205 Lib.Math.max.name ∈ tr_T := tr_in 377 (by decide +kernel) rfl
theorem ml_X7_210 : Cond.methodLink RX7 210 yX1_add ∈ tr_T := tr_in 391 (by decide +kernel) rfl
theorem ml_X7_213 : Cond.methodLink RX7 213 yX6_comesBack ∈ tr_T := tr_in 363 (by decide +kernel) rfl
theorem ml_X7_217 : Cond.methodLink RX7 217 yX0_firstQuietRound ∈ tr_T := tr_in 486 (by decide +kernel) rfl
theorem ml_X7_222 : Cond.methodLink RX7 222 yX7_departsAt ∈ tr_T := tr_in 510 (by decide +kernel) rfl
theorem ml_X7_225 : Cond.methodLink RX7 225 yX7_isOver ∈ tr_T := tr_in 514 (by decide +kernel) rfl
theorem ml_X7_228 : Cond.methodLink RX7 228 yX7_commonDivisor ∈ tr_T := tr_in 424 (by decide +kernel) rfl
theorem ml_X8_63 : Cond.methodLink RX8 63 yX8_in ∈ tr_T := tr_in 677 (by decide +kernel) rfl
theorem ml_X8_67 : Cond.methodLink RX8 67 yX8_minutesOf ∈ tr_T := tr_in 706 (by decide +kernel) rfl
theorem ml_X8_79 : Cond.methodLink RX8 79 yX8_isThere ∈ tr_T := tr_in 703 (by decide +kernel) rfl
theorem ml_X8_83 : Cond.methodLink RX8 83 yX8_figure ∈ tr_T := tr_in 692 (by decide +kernel) rfl
theorem ml_X8_90 : Cond.methodLink RX8 90 yX8_waitsFrom ∈ tr_T := tr_in 700 (by decide +kernel) rfl
theorem ml_X8_94 : Cond.methodLink RX8 94 yX8_readWait ∈ tr_T := tr_in 696 (by decide +kernel) rfl
theorem ml_X8_98 : Cond.methodLink RX8 98 yX8_readNet ∈ tr_T := tr_in 688 (by decide +kernel) rfl
theorem ml_X8_105 : Cond.methodLink RX8 105 yX8_waits ∈ tr_T := tr_in 713 (by decide +kernel) rfl
theorem ml_X8_128 : Cond.methodLink RX8 128 yX8_closeRing ∈ tr_T := tr_in 735 (by decide +kernel) rfl
theorem ml_X8_132 : Cond.methodLink RX8 132 yX8_has ∈ tr_T := tr_in 728 (by decide +kernel) rfl
theorem ml_X8_136 : Cond.methodLink RX8 136 yX8_isIn ∈ tr_T := tr_in 739 (by decide +kernel) rfl
theorem ml_X8_139 : Cond.methodLink RX8 139 yX8_ringsFrom ∈ tr_T := tr_in 731 (by decide +kernel) rfl
theorem ml_X8_143 : Cond.methodLink RX8 143 yX8_findRings ∈ tr_T := tr_in 724 (by decide +kernel) rfl
theorem ml_X8_146 : Cond.methodLink RX8 146 yX8_find ∈ tr_T := tr_in 720 (by decide +kernel) rfl
theorem ml_X8_150 : Cond.methodLink RX8 150 yX8_isPeriod ∈ tr_T := tr_in 749 (by decide +kernel) rfl
theorem ml_X8_154 : Cond.methodLink RX8 154 yX8_many ∈ tr_T := tr_in 742 (by decide +kernel) rfl
theorem ml_X8_158 : Cond.methodLink RX8 158 yX8_leastPeriod ∈ tr_T := tr_in 745 (by decide +kernel) rfl
theorem ml_X8_164 : Cond.methodLink RX8 164 yX8_noDeparture ∈ tr_T := tr_in 757 (by decide +kernel) rfl
theorem ml_X8_170 : Cond.methodLink RX8 170 yX8_note ∈ tr_T := tr_in 766 (by decide +kernel) rfl
theorem ml_X8_173 : Cond.methodLink RX8 173 yX8_divisor ∈ tr_T := tr_in 789 (by decide +kernel) rfl
theorem ml_X8_177 : Cond.methodLink RX8 177 yX8_fraction ∈ tr_T := tr_in 786 (by decide +kernel) rfl
theorem ml_X8_183 : Cond.methodLink RX8 183 yX8_layTimes ∈ tr_T := tr_in 801 (by decide +kernel) rfl
theorem ml_X8_186 : Cond.methodLink RX8 186 yX8_spareOf ∈ tr_T := tr_in 809 (by decide +kernel) rfl
theorem ml_X8_194 : Cond.methodLink RX8 194 yX8_beginLate ∈ tr_T := tr_in 819 (by decide +kernel) rfl
theorem ml_X8_198 : Cond.methodLink RX8 198 yX8_goRound ∈ tr_T := tr_in 823 (by decide +kernel) rfl
theorem ml_X8_201 : Cond.methodLink RX8 201 yX8_diesOf ∈ tr_T := tr_in 831 (by decide +kernel) rfl
theorem ml_X8_204 : Cond.methodLink RX8 204 yX8_begin ∈ tr_T := tr_in 839 (by decide +kernel) rfl
theorem ml_X8_207 : Cond.methodLink RX8 207 yX8_sixtiethsOf ∈ tr_T := tr_in 843 (by decide +kernel) rfl
theorem ml_X8_210 : Cond.methodLink RX8 210 yX8_sets ∈ tr_T := tr_in 860 (by decide +kernel) rfl
theorem ml_X8_214 : Cond.methodLink RX8 214 yX8_isCritical ∈ tr_T := tr_in 864 (by decide +kernel) rfl
theorem ml_X8_217 : Cond.methodLink RX8 217 yX8_isTime ∈ tr_T := tr_in 868 (by decide +kernel) rfl
theorem ml_X8_224 : Cond.methodLink RX8 224 yX8_longPower ∈ tr_T := tr_in 853 (by decide +kernel) rfl
theorem ml_X8_228 : Cond.methodLink RX8 228 yX8_does ∈ tr_T := tr_in 856 (by decide +kernel) rfl
theorem ml_X8_231 : Cond.methodLink RX8 231 yX8_orders ∈ tr_T := tr_in 876 (by decide +kernel) rfl
theorem ml_X8_240 : Cond.methodLink RX8 240 yX8_explains ∈ tr_T := tr_in 891 (by decide +kernel) rfl
theorem ml_X8_245 : Cond.methodLink RX8 245 yX8_drops ∈ tr_T := tr_in 900 (by decide +kernel) rfl
theorem ml_X8_248 : Cond.methodLink RX8 248 yX8_power ∈ tr_T := tr_in 904 (by decide +kernel) rfl
theorem ml_X8_258 : Cond.methodLink RX8 258 yX8_draw ∈ tr_T := tr_in 917 (by decide +kernel) rfl
theorem mk_X0_settle : Cond.code yX0_settle cX0_settle 7 none ∈ tr_T := tr_in 442 (by decide +kernel) rfl
theorem mz_X0_settle : tr_Mv RX0 yX0_settle cX0_settle 7 none 2 := ⟨tr_in 440 (by decide +kernel) rfl, tr_in 441 (by decide +kernel) rfl, tr_in 49 (by decide +kernel) rfl, mk_X0_settle, by decide +kernel⟩
theorem mk_X0_timeOf : Cond.code yX0_timeOf cX0_timeOf 2 (some .int) ∈ tr_T := tr_in 449 (by decide +kernel) rfl
theorem mz_X0_timeOf : tr_Mv RX0 yX0_timeOf cX0_timeOf 2 (some .int) 1 := ⟨tr_in 447 (by decide +kernel) rfl, tr_in 448 (by decide +kernel) rfl, tr_in 49 (by decide +kernel) rfl, mk_X0_timeOf, by decide +kernel⟩
theorem mk_X0_spareOf : Cond.code yX0_spareOf cX0_spareOf 4 (some .int) ∈ tr_T := tr_in 457 (by decide +kernel) rfl
theorem mz_X0_spareOf : tr_Mv RX0 yX0_spareOf cX0_spareOf 4 (some .int) 3 := ⟨tr_in 455 (by decide +kernel) rfl, tr_in 456 (by decide +kernel) rfl, tr_in 49 (by decide +kernel) rfl, mk_X0_spareOf, by decide +kernel⟩
theorem mk_X0_spread : Cond.code yX0_spread cX0_spread 6 none ∈ tr_T := tr_in 466 (by decide +kernel) rfl
theorem mz_X0_spread : tr_Mv RX0 yX0_spread cX0_spread 6 none 3 := ⟨tr_in 464 (by decide +kernel) rfl, tr_in 465 (by decide +kernel) rfl, tr_in 49 (by decide +kernel) rfl, mk_X0_spread, by decide +kernel⟩
theorem mk_X0_leastSpare : Cond.code yX0_leastSpare cX0_leastSpare 7 (some .int) ∈ tr_T := tr_in 471 (by decide +kernel) rfl
theorem mz_X0_leastSpare : tr_Mv RX0 yX0_leastSpare cX0_leastSpare 7 (some .int) 3 := ⟨tr_in 470 (by decide +kernel) rfl, tr_in 11 (by decide +kernel) rfl, tr_in 49 (by decide +kernel) rfl, mk_X0_leastSpare, by decide +kernel⟩
theorem mk_X0_lateness : Cond.code yX0_lateness cX0_lateness 4 (some .int) ∈ tr_T := tr_in 477 (by decide +kernel) rfl
theorem mz_X0_lateness : tr_Mv RX0 yX0_lateness cX0_lateness 4 (some .int) 3 := ⟨tr_in 475 (by decide +kernel) rfl, tr_in 476 (by decide +kernel) rfl, tr_in 49 (by decide +kernel) rfl, mk_X0_lateness, by decide +kernel⟩
theorem mk_X0_firstQuietRound : Cond.code yX0_firstQuietRound cX0_firstQuietRound 6 (some .int) ∈ tr_T := tr_in 489 (by decide +kernel) rfl
theorem mz_X0_firstQuietRound : tr_Mv RX0 yX0_firstQuietRound cX0_firstQuietRound 6 (some .int) 2 := ⟨tr_in 487 (by decide +kernel) rfl, tr_in 488 (by decide +kernel) rfl, tr_in 49 (by decide +kernel) rfl, mk_X0_firstQuietRound, by decide +kernel⟩
theorem mk_X1_forget : Cond.code yX1_forget cX1_forget 1 none ∈ tr_T := tr_in 293 (by decide +kernel) rfl
theorem mz_X1_forget : tr_Mv RX1 yX1_forget cX1_forget 1 none 0 := ⟨tr_in 291 (by decide +kernel) rfl, tr_in 292 (by decide +kernel) rfl, tr_in 46 (by decide +kernel) rfl, mk_X1_forget, by decide +kernel⟩
theorem mk_X1_add : Cond.code yX1_add cX1_add 4 none ∈ tr_T := tr_in 394 (by decide +kernel) rfl
theorem mz_X1_add : tr_Mv RX1 yX1_add cX1_add 4 none 3 := ⟨tr_in 392 (by decide +kernel) rfl, tr_in 393 (by decide +kernel) rfl, tr_in 46 (by decide +kernel) rfl, mk_X1_add, by decide +kernel⟩
theorem mk_X1_takeBack : Cond.code yX1_takeBack cX1_takeBack 2 none ∈ tr_T := tr_in 415 (by decide +kernel) rfl
theorem mz_X1_takeBack : tr_Mv RX1 yX1_takeBack cX1_takeBack 2 none 1 := ⟨tr_in 413 (by decide +kernel) rfl, tr_in 414 (by decide +kernel) rfl, tr_in 46 (by decide +kernel) rfl, mk_X1_takeBack, by decide +kernel⟩
theorem mk_X1_forgetFirst : Cond.code yX1_forgetFirst cX1_forgetFirst 2 none ∈ tr_T := tr_in 398 (by decide +kernel) rfl
theorem mz_X1_forgetFirst : tr_Mv RX1 yX1_forgetFirst cX1_forgetFirst 2 none 0 := ⟨tr_in 397 (by decide +kernel) rfl, tr_in 10 (by decide +kernel) rfl, tr_in 46 (by decide +kernel) rfl, mk_X1_forgetFirst, by decide +kernel⟩
theorem mk_X2_has : Cond.code yX2_has cX2_has 2 (some .boolean) ∈ tr_T := tr_in 264 (by decide +kernel) rfl
theorem mz_X2_has : tr_Mv RX2 yX2_has cX2_has 2 (some .boolean) 1 := ⟨tr_in 262 (by decide +kernel) rfl, tr_in 263 (by decide +kernel) rfl, tr_in 43 (by decide +kernel) rfl, mk_X2_has, by decide +kernel⟩
theorem mk_X2_of : Cond.code yX2_of cX2_of 3 (some .int) ∈ tr_T := tr_in 272 (by decide +kernel) rfl
theorem mz_X2_of : tr_Mv RX2 yX2_of cX2_of 3 (some .int) 2 := ⟨tr_in 270 (by decide +kernel) rfl, tr_in 271 (by decide +kernel) rfl, tr_in 43 (by decide +kernel) rfl, mk_X2_of, by decide +kernel⟩
theorem mk_X2_lay : Cond.code yX2_lay cX2_lay 4 (some .boolean) ∈ tr_T := tr_in 277 (by decide +kernel) rfl
theorem mz_X2_lay : tr_Mv RX2 yX2_lay cX2_lay 4 (some .boolean) 3 := ⟨tr_in 275 (by decide +kernel) rfl, tr_in 276 (by decide +kernel) rfl, tr_in 43 (by decide +kernel) rfl, mk_X2_lay, by decide +kernel⟩
theorem mk_X2_leadsToAll : Cond.code yX2_leadsToAll cX2_leadsToAll 3 (some .boolean) ∈ tr_T := tr_in 268 (by decide +kernel) rfl
theorem mz_X2_leadsToAll : tr_Mv RX2 yX2_leadsToAll cX2_leadsToAll 3 (some .boolean) 1 := ⟨tr_in 266 (by decide +kernel) rfl, tr_in 267 (by decide +kernel) rfl, tr_in 43 (by decide +kernel) rfl, mk_X2_leadsToAll, by decide +kernel⟩
theorem mk_X2_waits : Cond.code yX2_waits cX2_waits 3 (some .int) ∈ tr_T := tr_in 297 (by decide +kernel) rfl
theorem mz_X2_waits : tr_Mv RX2 yX2_waits cX2_waits 3 (some .int) 0 := ⟨tr_in 295 (by decide +kernel) rfl, tr_in 296 (by decide +kernel) rfl, tr_in 43 (by decide +kernel) rfl, mk_X2_waits, by decide +kernel⟩
theorem mk_X2_begin : Cond.code yX2_begin cX2_begin 2 none ∈ tr_T := tr_in 250 (by decide +kernel) rfl
theorem mz_X2_begin : tr_Mv RX2 yX2_begin cX2_begin 2 none 1 := ⟨tr_in 248 (by decide +kernel) rfl, tr_in 249 (by decide +kernel) rfl, tr_in 43 (by decide +kernel) rfl, mk_X2_begin, by decide +kernel⟩
theorem mk_X2_copyFrom : Cond.code yX2_copyFrom cX2_copyFrom 2 none ∈ tr_T := tr_in 286 (by decide +kernel) rfl
theorem mz_X2_copyFrom : tr_Mv RX2 yX2_copyFrom cX2_copyFrom 2 none 1 := ⟨tr_in 284 (by decide +kernel) rfl, tr_in 285 (by decide +kernel) rfl, tr_in 43 (by decide +kernel) rfl, mk_X2_copyFrom, by decide +kernel⟩
theorem mk_X3_read : Cond.code yX3_read cX3_read 5 (some .int) ∈ tr_T := tr_in 246 (by decide +kernel) rfl
theorem mz_X3_read : tr_Mv RX3 yX3_read cX3_read 5 (some .int) 3 := ⟨tr_in 244 (by decide +kernel) rfl, tr_in 245 (by decide +kernel) rfl, tr_in 45 (by decide +kernel) rfl, mk_X3_read, by decide +kernel⟩
theorem mk_X3_takes : Cond.code yX3_takes cX3_takes 5 (some .boolean) ∈ tr_T := tr_in 260 (by decide +kernel) rfl
theorem mz_X3_takes : tr_Mv RX3 yX3_takes cX3_takes 5 (some .boolean) 3 := ⟨tr_in 259 (by decide +kernel) rfl, tr_in 0 (by decide +kernel) rfl, tr_in 45 (by decide +kernel) rfl, mk_X3_takes, by decide +kernel⟩
theorem mk_X4_fill : Cond.code yX4_fill cX4_fill 4 none ∈ tr_T := tr_in 305 (by decide +kernel) rfl
theorem mz_X4_fill : tr_Mv RX4 yX4_fill cX4_fill 4 none 1 := ⟨tr_in 303 (by decide +kernel) rfl, tr_in 304 (by decide +kernel) rfl, tr_in 50 (by decide +kernel) rfl, mk_X4_fill, by decide +kernel⟩
theorem mk_X4_lowestOf : Cond.code yX4_lowestOf cX4_lowestOf 2 (some .int) ∈ tr_T := tr_in 313 (by decide +kernel) rfl
theorem mz_X4_lowestOf : tr_Ms yX4_lowestOf cX4_lowestOf 2 (some .int) 1 := ⟨tr_in 312 (by decide +kernel) rfl, tr_in 50 (by decide +kernel) rfl, mk_X4_lowestOf, by decide +kernel⟩
theorem mk_X4_goOn : Cond.code yX4_goOn cX4_goOn 11 none ∈ tr_T := tr_in 310 (by decide +kernel) rfl
theorem mz_X4_goOn : tr_Mv RX4 yX4_goOn cX4_goOn 11 none 3 := ⟨tr_in 309 (by decide +kernel) rfl, tr_in 1 (by decide +kernel) rfl, tr_in 50 (by decide +kernel) rfl, mk_X4_goOn, by decide +kernel⟩
theorem mk_X4_takeWithin : Cond.code yX4_takeWithin cX4_takeWithin 4 none ∈ tr_T := tr_in 327 (by decide +kernel) rfl
theorem mz_X4_takeWithin : tr_Mv RX4 yX4_takeWithin cX4_takeWithin 4 none 1 := ⟨tr_in 326 (by decide +kernel) rfl, tr_in 2 (by decide +kernel) rfl, tr_in 50 (by decide +kernel) rfl, mk_X4_takeWithin, by decide +kernel⟩
theorem mk_X4_added : Cond.code yX4_added cX4_added 7 (some .int) ∈ tr_T := tr_in 527 (by decide +kernel) rfl
theorem mz_X4_added : tr_Mv RX4 yX4_added cX4_added 7 (some .int) 2 := ⟨tr_in 525 (by decide +kernel) rfl, tr_in 526 (by decide +kernel) rfl, tr_in 50 (by decide +kernel) rfl, mk_X4_added, by decide +kernel⟩
theorem mk_X5_add : Cond.code yX5_add cX5_add 4 (some .boolean) ∈ tr_T := tr_in 536 (by decide +kernel) rfl
theorem mz_X5_add : tr_Mv RX5 yX5_add cX5_add 4 (some .boolean) 3 := ⟨tr_in 534 (by decide +kernel) rfl, tr_in 535 (by decide +kernel) rfl, tr_in 47 (by decide +kernel) rfl, mk_X5_add, by decide +kernel⟩
theorem mk_X5_fits : Cond.code yX5_fits cX5_fits 6 (some .boolean) ∈ tr_T := tr_in 548 (by decide +kernel) rfl
theorem mz_X5_fits : tr_Mv RX5 yX5_fits cX5_fits 6 (some .boolean) 3 := ⟨tr_in 546 (by decide +kernel) rfl, tr_in 547 (by decide +kernel) rfl, tr_in 47 (by decide +kernel) rfl, mk_X5_fits, by decide +kernel⟩
theorem mk_X6_isKept : Cond.code yX6_isKept cX6_isKept 3 (some .boolean) ∈ tr_T := tr_in 438 (by decide +kernel) rfl
theorem mz_X6_isKept : tr_Mv RX6 yX6_isKept cX6_isKept 3 (some .boolean) 2 := ⟨tr_in 436 (by decide +kernel) rfl, tr_in 437 (by decide +kernel) rfl, tr_in 48 (by decide +kernel) rfl, mk_X6_isKept, by decide +kernel⟩
theorem mk_X6_slowest : Cond.code yX6_slowest cX6_slowest 4 (some .int) ∈ tr_T := tr_in 339 (by decide +kernel) rfl
theorem mz_X6_slowest : tr_Mv RX6 yX6_slowest cX6_slowest 4 (some .int) 1 := ⟨tr_in 337 (by decide +kernel) rfl, tr_in 338 (by decide +kernel) rfl, tr_in 48 (by decide +kernel) rfl, mk_X6_slowest, by decide +kernel⟩
theorem mk_X6_longest : Cond.code yX6_longest cX6_longest 8 (some .int) ∈ tr_T := tr_in 343 (by decide +kernel) rfl
theorem mz_X6_longest : tr_Mv RX6 yX6_longest cX6_longest 8 (some .int) 3 := ⟨tr_in 342 (by decide +kernel) rfl, tr_in 4 (by decide +kernel) rfl, tr_in 48 (by decide +kernel) rfl, mk_X6_longest, by decide +kernel⟩
theorem mk_X6_leastMean : Cond.code yX6_leastMean cX6_leastMean 6 (some .int) ∈ tr_T := tr_in 349 (by decide +kernel) rfl
theorem mz_X6_leastMean : tr_Mv RX6 yX6_leastMean cX6_leastMean 6 (some .int) 2 := ⟨tr_in 348 (by decide +kernel) rfl, tr_in 5 (by decide +kernel) rfl, tr_in 48 (by decide +kernel) rfl, mk_X6_leastMean, by decide +kernel⟩
theorem mk_X6_compare : Cond.code yX6_compare cX6_compare 5 none ∈ tr_T := tr_in 335 (by decide +kernel) rfl
theorem mz_X6_compare : tr_Mv RX6 yX6_compare cX6_compare 5 none 1 := ⟨tr_in 333 (by decide +kernel) rfl, tr_in 334 (by decide +kernel) rfl, tr_in 48 (by decide +kernel) rfl, mk_X6_compare, by decide +kernel⟩
theorem mk_X6_gainOf : Cond.code yX6_gainOf cX6_gainOf 5 (some .int) ∈ tr_T := tr_in 356 (by decide +kernel) rfl
theorem mz_X6_gainOf : tr_Mv RX6 yX6_gainOf cX6_gainOf 5 (some .int) 3 := ⟨tr_in 355 (by decide +kernel) rfl, tr_in 6 (by decide +kernel) rfl, tr_in 48 (by decide +kernel) rfl, mk_X6_gainOf, by decide +kernel⟩
theorem mk_X6_join : Cond.code yX6_join cX6_join 7 none ∈ tr_T := tr_in 361 (by decide +kernel) rfl
theorem mz_X6_join : tr_Mv RX6 yX6_join cX6_join 7 none 3 := ⟨tr_in 360 (by decide +kernel) rfl, tr_in 7 (by decide +kernel) rfl, tr_in 48 (by decide +kernel) rfl, mk_X6_join, by decide +kernel⟩
theorem mk_X6_comesBack : Cond.code yX6_comesBack cX6_comesBack 3 (some .boolean) ∈ tr_T := tr_in 366 (by decide +kernel) rfl
theorem mz_X6_comesBack : tr_Mv RX6 yX6_comesBack cX6_comesBack 3 (some .boolean) 2 := ⟨tr_in 364 (by decide +kernel) rfl, tr_in 365 (by decide +kernel) rfl, tr_in 48 (by decide +kernel) rfl, mk_X6_comesBack, by decide +kernel⟩
theorem mk_X6_isCritical : Cond.code yX6_isCritical cX6_isCritical 4 (some .boolean) ∈ tr_T := tr_in 370 (by decide +kernel) rfl
theorem mz_X6_isCritical : tr_Mv RX6 yX6_isCritical cX6_isCritical 4 (some .boolean) 3 := ⟨tr_in 368 (by decide +kernel) rfl, tr_in 369 (by decide +kernel) rfl, tr_in 48 (by decide +kernel) rfl, mk_X6_isCritical, by decide +kernel⟩
theorem mk_X7_write : Cond.code yX7_write cX7_write 2 (some .int) ∈ tr_T := tr_in 234 (by decide +kernel) rfl
theorem mz_X7_write : tr_Mv RX7 yX7_write cX7_write 2 (some .int) 1 := ⟨tr_in 232 (by decide +kernel) rfl, tr_in 233 (by decide +kernel) rfl, tr_in 42 (by decide +kernel) rfl, mk_X7_write, by decide +kernel⟩
theorem mk_X7_wipe : Cond.code yX7_wipe cX7_wipe 2 (some .int) ∈ tr_T := tr_in 238 (by decide +kernel) rfl
theorem mz_X7_wipe : tr_Mv RX7 yX7_wipe cX7_wipe 2 (some .int) 0 := ⟨tr_in 236 (by decide +kernel) rfl, tr_in 237 (by decide +kernel) rfl, tr_in 42 (by decide +kernel) rfl, mk_X7_wipe, by decide +kernel⟩
theorem mk_X7_fault : Cond.code yX7_fault cX7_fault 1 (some .int) ∈ tr_T := tr_in 242 (by decide +kernel) rfl
theorem mz_X7_fault : tr_Mv RX7 yX7_fault cX7_fault 1 (some .int) 0 := ⟨tr_in 240 (by decide +kernel) rfl, tr_in 241 (by decide +kernel) rfl, tr_in 42 (by decide +kernel) rfl, mk_X7_fault, by decide +kernel⟩
theorem mk_X7_net : Cond.code yX7_net cX7_net 2 (some .int) ∈ tr_T := tr_in 282 (by decide +kernel) rfl
theorem mz_X7_net : tr_Mv RX7 yX7_net cX7_net 2 (some .int) 0 := ⟨tr_in 280 (by decide +kernel) rfl, tr_in 281 (by decide +kernel) rfl, tr_in 42 (by decide +kernel) rfl, mk_X7_net, by decide +kernel⟩
theorem mk_X7_about : Cond.code yX7_about cX7_about 2 (some .int) ∈ tr_T := tr_in 301 (by decide +kernel) rfl
theorem mz_X7_about : tr_Mv RX7 yX7_about cX7_about 2 (some .int) 1 := ⟨tr_in 299 (by decide +kernel) rfl, tr_in 300 (by decide +kernel) rfl, tr_in 42 (by decide +kernel) rfl, mk_X7_about, by decide +kernel⟩
theorem mk_X7_minutes : Cond.code yX7_minutes cX7_minutes 3 (some .int) ∈ tr_T := tr_in 381 (by decide +kernel) rfl
theorem mz_X7_minutes : tr_Mv RX7 yX7_minutes cX7_minutes 3 (some .int) 2 := ⟨tr_in 379 (by decide +kernel) rfl, tr_in 380 (by decide +kernel) rfl, tr_in 42 (by decide +kernel) rfl, mk_X7_minutes, by decide +kernel⟩
theorem mk_X7_put : Cond.code yX7_put cX7_put 4 (some .int) ∈ tr_T := tr_in 386 (by decide +kernel) rfl
theorem mz_X7_put : tr_Mv RX7 yX7_put cX7_put 4 (some .int) 3 := ⟨tr_in 384 (by decide +kernel) rfl, tr_in 385 (by decide +kernel) rfl, tr_in 42 (by decide +kernel) rfl, mk_X7_put, by decide +kernel⟩
theorem mk_X7_cut : Cond.code yX7_cut cX7_cut 3 (some .int) ∈ tr_T := tr_in 403 (by decide +kernel) rfl
theorem mz_X7_cut : tr_Mv RX7 yX7_cut cX7_cut 3 (some .int) 2 := ⟨tr_in 401 (by decide +kernel) rfl, tr_in 402 (by decide +kernel) rfl, tr_in 42 (by decide +kernel) rfl, mk_X7_cut, by decide +kernel⟩
theorem mk_X7_time : Cond.code yX7_time cX7_time 4 (some .int) ∈ tr_T := tr_in 407 (by decide +kernel) rfl
theorem mz_X7_time : tr_Mv RX7 yX7_time cX7_time 4 (some .int) 3 := ⟨tr_in 405 (by decide +kernel) rfl, tr_in 406 (by decide +kernel) rfl, tr_in 42 (by decide +kernel) rfl, mk_X7_time, by decide +kernel⟩
theorem mk_X7_undo : Cond.code yX7_undo cX7_undo 1 (some .int) ∈ tr_T := tr_in 411 (by decide +kernel) rfl
theorem mz_X7_undo : tr_Mv RX7 yX7_undo cX7_undo 1 (some .int) 0 := ⟨tr_in 409 (by decide +kernel) rfl, tr_in 410 (by decide +kernel) rfl, tr_in 42 (by decide +kernel) rfl, mk_X7_undo, by decide +kernel⟩
theorem mk_X7_pace : Cond.code yX7_pace cX7_pace 3 (some .int) ∈ tr_T := tr_in 420 (by decide +kernel) rfl
theorem mz_X7_pace : tr_Mv RX7 yX7_pace cX7_pace 3 (some .int) 1 := ⟨tr_in 418 (by decide +kernel) rfl, tr_in 419 (by decide +kernel) rfl, tr_in 42 (by decide +kernel) rfl, mk_X7_pace, by decide +kernel⟩
theorem mk_X7_critical : Cond.code yX7_critical cX7_critical 3 (some .int) ∈ tr_T := tr_in 430 (by decide +kernel) rfl
theorem mz_X7_critical : tr_Mv RX7 yX7_critical cX7_critical 3 (some .int) 2 := ⟨tr_in 428 (by decide +kernel) rfl, tr_in 429 (by decide +kernel) rfl, tr_in 42 (by decide +kernel) rfl, mk_X7_critical, by decide +kernel⟩
theorem mk_X7_departs : Cond.code yX7_departs cX7_departs 3 (some .int) ∈ tr_T := tr_in 434 (by decide +kernel) rfl
theorem mz_X7_departs : tr_Mv RX7 yX7_departs cX7_departs 3 (some .int) 2 := ⟨tr_in 432 (by decide +kernel) rfl, tr_in 433 (by decide +kernel) rfl, tr_in 42 (by decide +kernel) rfl, mk_X7_departs, by decide +kernel⟩
theorem mk_X7_spare : Cond.code yX7_spare cX7_spare 4 (some .int) ∈ tr_T := tr_in 453 (by decide +kernel) rfl
theorem mz_X7_spare : tr_Mv RX7 yX7_spare cX7_spare 4 (some .int) 3 := ⟨tr_in 451 (by decide +kernel) rfl, tr_in 452 (by decide +kernel) rfl, tr_in 42 (by decide +kernel) rfl, mk_X7_spare, by decide +kernel⟩
theorem mk_X7_late : Cond.code yX7_late cX7_late 6 (some .int) ∈ tr_T := tr_in 462 (by decide +kernel) rfl
theorem mz_X7_late : tr_Mv RX7 yX7_late cX7_late 6 (some .int) 5 := ⟨tr_in 460 (by decide +kernel) rfl, tr_in 461 (by decide +kernel) rfl, tr_in 42 (by decide +kernel) rfl, mk_X7_late, by decide +kernel⟩
theorem mk_X7_dies : Cond.code yX7_dies cX7_dies 4 (some .int) ∈ tr_T := tr_in 481 (by decide +kernel) rfl
theorem mz_X7_dies : tr_Mv RX7 yX7_dies cX7_dies 4 (some .int) 3 := ⟨tr_in 479 (by decide +kernel) rfl, tr_in 480 (by decide +kernel) rfl, tr_in 42 (by decide +kernel) rfl, mk_X7_dies, by decide +kernel⟩
theorem mk_X7_best : Cond.code yX7_best cX7_best 8 (some .int) ∈ tr_T := tr_in 494 (by decide +kernel) rfl
theorem mz_X7_best : tr_Mv RX7 yX7_best cX7_best 8 (some .int) 1 := ⟨tr_in 492 (by decide +kernel) rfl, tr_in 493 (by decide +kernel) rfl, tr_in 42 (by decide +kernel) rfl, mk_X7_best, by decide +kernel⟩
theorem mk_X7_judge : Cond.code yX7_judge cX7_judge 5 (some .int) ∈ tr_T := tr_in 499 (by decide +kernel) rfl
theorem mz_X7_judge : tr_Mv RX7 yX7_judge cX7_judge 5 (some .int) 2 := ⟨tr_in 497 (by decide +kernel) rfl, tr_in 498 (by decide +kernel) rfl, tr_in 42 (by decide +kernel) rfl, mk_X7_judge, by decide +kernel⟩
theorem mk_X7_share : Cond.code yX7_share cX7_share 4 (some .int) ∈ tr_T := tr_in 521 (by decide +kernel) rfl
theorem mz_X7_share : tr_Mv RX7 yX7_share cX7_share 4 (some .int) 2 := ⟨tr_in 519 (by decide +kernel) rfl, tr_in 520 (by decide +kernel) rfl, tr_in 42 (by decide +kernel) rfl, mk_X7_share, by decide +kernel⟩
theorem mk_X7_see : Cond.code yX7_see cX7_see 4 (some .int) ∈ tr_T := tr_in 532 (by decide +kernel) rfl
theorem mz_X7_see : tr_Mv RX7 yX7_see cX7_see 4 (some .int) 3 := ⟨tr_in 530 (by decide +kernel) rfl, tr_in 531 (by decide +kernel) rfl, tr_in 42 (by decide +kernel) rfl, mk_X7_see, by decide +kernel⟩
theorem mk_X7_unsee : Cond.code yX7_unsee cX7_unsee 2 (some .int) ∈ tr_T := tr_in 540 (by decide +kernel) rfl
theorem mz_X7_unsee : tr_Mv RX7 yX7_unsee cX7_unsee 2 (some .int) 0 := ⟨tr_in 538 (by decide +kernel) rfl, tr_in 539 (by decide +kernel) rfl, tr_in 42 (by decide +kernel) rfl, mk_X7_unsee, by decide +kernel⟩
theorem mk_X7_began : Cond.code yX7_began cX7_began 6 (some .int) ∈ tr_T := tr_in 544 (by decide +kernel) rfl
theorem mz_X7_began : tr_Mv RX7 yX7_began cX7_began 6 (some .int) 1 := ⟨tr_in 542 (by decide +kernel) rfl, tr_in 543 (by decide +kernel) rfl, tr_in 42 (by decide +kernel) rfl, mk_X7_began, by decide +kernel⟩
theorem mk_X7_dropped : Cond.code yX7_dropped cX7_dropped 8 (some .int) ∈ tr_T := tr_in 553 (by decide +kernel) rfl
theorem mz_X7_dropped : tr_Mv RX7 yX7_dropped cX7_dropped 8 (some .int) 4 := ⟨tr_in 551 (by decide +kernel) rfl, tr_in 552 (by decide +kernel) rfl, tr_in 42 (by decide +kernel) rfl, mk_X7_dropped, by decide +kernel⟩
theorem mk_X7_seed : Cond.code yX7_seed cX7_seed 5 (some .long) ∈ tr_T := tr_in 557 (by decide +kernel) rfl
theorem mz_X7_seed : tr_Mv RX7 yX7_seed cX7_seed 5 (some .long) 1 := ⟨tr_in 555 (by decide +kernel) rfl, tr_in 556 (by decide +kernel) rfl, tr_in 42 (by decide +kernel) rfl, mk_X7_seed, by decide +kernel⟩
theorem mk_X7_drawn : Cond.code yX7_drawn cX7_drawn 6 (some .int) ∈ tr_T := tr_in 561 (by decide +kernel) rfl
theorem mz_X7_drawn : tr_Mv RX7 yX7_drawn cX7_drawn 6 (some .int) 1 := ⟨tr_in 559 (by decide +kernel) rfl, tr_in 560 (by decide +kernel) rfl, tr_in 42 (by decide +kernel) rfl, mk_X7_drawn, by decide +kernel⟩
theorem mk_X7_keep : Cond.code yX7_keep cX7_keep 2 (some .int) ∈ tr_T := tr_in 567 (by decide +kernel) rfl
theorem mz_X7_keep : tr_Mv RX7 yX7_keep cX7_keep 2 (some .int) 1 := ⟨tr_in 565 (by decide +kernel) rfl, tr_in 566 (by decide +kernel) rfl, tr_in 42 (by decide +kernel) rfl, mk_X7_keep, by decide +kernel⟩
theorem mk_X7_again : Cond.code yX7_again cX7_again 2 (some .int) ∈ tr_T := tr_in 571 (by decide +kernel) rfl
theorem mz_X7_again : tr_Mv RX7 yX7_again cX7_again 2 (some .int) 1 := ⟨tr_in 569 (by decide +kernel) rfl, tr_in 570 (by decide +kernel) rfl, tr_in 42 (by decide +kernel) rfl, mk_X7_again, by decide +kernel⟩
theorem mk_X7_change : Cond.code yX7_change cX7_change 5 (some .int) ∈ tr_T := tr_in 390 (by decide +kernel) rfl
theorem mz_X7_change : tr_Mv RX7 yX7_change cX7_change 5 (some .int) 3 := ⟨tr_in 389 (by decide +kernel) rfl, tr_in 9 (by decide +kernel) rfl, tr_in 42 (by decide +kernel) rfl, mk_X7_change, by decide +kernel⟩
theorem mk_X7_aboutEachWait : Cond.code yX7_aboutEachWait cX7_aboutEachWait 7 (some .int) ∈ tr_T := tr_in 331 (by decide +kernel) rfl
theorem mz_X7_aboutEachWait : tr_Mv RX7 yX7_aboutEachWait cX7_aboutEachWait 7 (some .int) 1 := ⟨tr_in 330 (by decide +kernel) rfl, tr_in 3 (by decide +kernel) rfl, tr_in 42 (by decide +kernel) rfl, mk_X7_aboutEachWait, by decide +kernel⟩
theorem mk_X7_leastPeriod : Cond.code yX7_leastPeriod cX7_leastPeriod 2 (some .int) ∈ tr_T := tr_in 375 (by decide +kernel) rfl
theorem mz_X7_leastPeriod : tr_Mv RX7 yX7_leastPeriod cX7_leastPeriod 2 (some .int) 0 := ⟨tr_in 374 (by decide +kernel) rfl, tr_in 8 (by decide +kernel) rfl, tr_in 42 (by decide +kernel) rfl, mk_X7_leastPeriod, by decide +kernel⟩
theorem mk_X7_lastsUntil : Cond.code yX7_lastsUntil cX7_lastsUntil 5 (some .int) ∈ tr_T := tr_in 485 (by decide +kernel) rfl
theorem mz_X7_lastsUntil : tr_Mv RX7 yX7_lastsUntil cX7_lastsUntil 5 (some .int) 4 := ⟨tr_in 484 (by decide +kernel) rfl, tr_in 12 (by decide +kernel) rfl, tr_in 42 (by decide +kernel) rfl, mk_X7_lastsUntil, by decide +kernel⟩
theorem mk_X7_figuresOf : Cond.code yX7_figuresOf cX7_figuresOf 6 (some .int) ∈ tr_T := tr_in 504 (by decide +kernel) rfl
theorem mz_X7_figuresOf : tr_Ms yX7_figuresOf cX7_figuresOf 6 (some .int) 2 := ⟨tr_in 503 (by decide +kernel) rfl, tr_in 42 (by decide +kernel) rfl, mk_X7_figuresOf, by decide +kernel⟩
theorem mk_X7_holds : Cond.code yX7_holds cX7_holds 7 (some .boolean) ∈ tr_T := tr_in 509 (by decide +kernel) rfl
theorem mz_X7_holds : tr_Mv RX7 yX7_holds cX7_holds 7 (some .boolean) 1 := ⟨tr_in 508 (by decide +kernel) rfl, tr_in 13 (by decide +kernel) rfl, tr_in 42 (by decide +kernel) rfl, mk_X7_holds, by decide +kernel⟩
theorem mk_X7_departsAt : Cond.code yX7_departsAt cX7_departsAt 3 (some .boolean) ∈ tr_T := tr_in 513 (by decide +kernel) rfl
theorem mz_X7_departsAt : tr_Mv RX7 yX7_departsAt cX7_departsAt 3 (some .boolean) 2 := ⟨tr_in 512 (by decide +kernel) rfl, tr_in 14 (by decide +kernel) rfl, tr_in 42 (by decide +kernel) rfl, mk_X7_departsAt, by decide +kernel⟩
theorem mk_X7_isOver : Cond.code yX7_isOver cX7_isOver 3 (some .boolean) ∈ tr_T := tr_in 517 (by decide +kernel) rfl
theorem mz_X7_isOver : tr_Mv RX7 yX7_isOver cX7_isOver 3 (some .boolean) 2 := ⟨tr_in 516 (by decide +kernel) rfl, tr_in 15 (by decide +kernel) rfl, tr_in 42 (by decide +kernel) rfl, mk_X7_isOver, by decide +kernel⟩
theorem mk_X7_told : Cond.code yX7_told cX7_told 4 (some .int) ∈ tr_T := tr_in 423 (by decide +kernel) rfl
theorem mz_X7_told : tr_Ms yX7_told cX7_told 4 (some .int) 3 := ⟨tr_in 422 (by decide +kernel) rfl, tr_in 42 (by decide +kernel) rfl, mk_X7_told, by decide +kernel⟩
theorem mk_X7_commonDivisor : Cond.code yX7_commonDivisor cX7_commonDivisor 6 (some .int) ∈ tr_T := tr_in 426 (by decide +kernel) rfl
theorem mz_X7_commonDivisor : tr_Ms yX7_commonDivisor cX7_commonDivisor 6 (some .int) 2 := ⟨tr_in 425 (by decide +kernel) rfl, tr_in 42 (by decide +kernel) rfl, mk_X7_commonDivisor, by decide +kernel⟩
theorem mk_X8_in : Cond.code yX8_in cX8_in 6 (some .boolean) ∈ tr_T := tr_in 679 (by decide +kernel) rfl
theorem mz_X8_in : tr_Ms yX8_in cX8_in 6 (some .boolean) 3 := ⟨tr_in 678 (by decide +kernel) rfl, tr_in 51 (by decide +kernel) rfl, mk_X8_in, by decide +kernel⟩
theorem mk_X8_has : Cond.code yX8_has cX8_has 2 (some .boolean) ∈ tr_T := tr_in 730 (by decide +kernel) rfl
theorem mz_X8_has : tr_Ms yX8_has cX8_has 2 (some .boolean) 2 := ⟨tr_in 729 (by decide +kernel) rfl, tr_in 51 (by decide +kernel) rfl, mk_X8_has, by decide +kernel⟩
theorem mk_X8_many : Cond.code yX8_many cX8_many 5 (some .int) ∈ tr_T := tr_in 744 (by decide +kernel) rfl
theorem mz_X8_many : tr_Ms yX8_many cX8_many 5 (some .int) 1 := ⟨tr_in 743 (by decide +kernel) rfl, tr_in 51 (by decide +kernel) rfl, mk_X8_many, by decide +kernel⟩
theorem mk_X8_power : Cond.code yX8_power cX8_power 4 (some .int) ∈ tr_T := tr_in 906 (by decide +kernel) rfl
theorem mz_X8_power : tr_Ms yX8_power cX8_power 4 (some .int) 2 := ⟨tr_in 905 (by decide +kernel) rfl, tr_in 51 (by decide +kernel) rfl, mk_X8_power, by decide +kernel⟩
theorem mk_X8_noDeparture : Cond.code yX8_noDeparture cX8_noDeparture 2 (some .boolean) ∈ tr_T := tr_in 760 (by decide +kernel) rfl
theorem mz_X8_noDeparture : tr_Mv RX8 yX8_noDeparture cX8_noDeparture 2 (some .boolean) 1 := ⟨tr_in 759 (by decide +kernel) rfl, tr_in 25 (by decide +kernel) rfl, tr_in 51 (by decide +kernel) rfl, mk_X8_noDeparture, by decide +kernel⟩
theorem mk_X8_minutesOf : Cond.code yX8_minutesOf cX8_minutesOf 3 (some .int) ∈ tr_T := tr_in 708 (by decide +kernel) rfl
theorem mz_X8_minutesOf : tr_Ms yX8_minutesOf cX8_minutesOf 3 (some .int) 3 := ⟨tr_in 707 (by decide +kernel) rfl, tr_in 51 (by decide +kernel) rfl, mk_X8_minutesOf, by decide +kernel⟩
theorem mk_X8_isThere : Cond.code yX8_isThere cX8_isThere 3 (some .boolean) ∈ tr_T := tr_in 705 (by decide +kernel) rfl
theorem mz_X8_isThere : tr_Ms yX8_isThere cX8_isThere 3 (some .boolean) 3 := ⟨tr_in 704 (by decide +kernel) rfl, tr_in 51 (by decide +kernel) rfl, mk_X8_isThere, by decide +kernel⟩
theorem mk_X8_write : Cond.code yX8_write cX8_write 2 (some .int) ∈ tr_T := tr_in 675 (by decide +kernel) rfl
theorem mz_X8_write : tr_Mv RX8 yX8_write cX8_write 2 (some .int) 1 := ⟨tr_in 673 (by decide +kernel) rfl, tr_in 674 (by decide +kernel) rfl, tr_in 51 (by decide +kernel) rfl, mk_X8_write, by decide +kernel⟩
theorem mk_X8_wipe : Cond.code yX8_wipe cX8_wipe 2 (some .int) ∈ tr_T := tr_in 683 (by decide +kernel) rfl
theorem mz_X8_wipe : tr_Mv RX8 yX8_wipe cX8_wipe 2 (some .int) 0 := ⟨tr_in 681 (by decide +kernel) rfl, tr_in 682 (by decide +kernel) rfl, tr_in 51 (by decide +kernel) rfl, mk_X8_wipe, by decide +kernel⟩
theorem mk_X8_figure : Cond.code yX8_figure cX8_figure 2 (some .int) ∈ tr_T := tr_in 695 (by decide +kernel) rfl
theorem mz_X8_figure : tr_Mv RX8 yX8_figure cX8_figure 2 (some .int) 1 := ⟨tr_in 694 (by decide +kernel) rfl, tr_in 17 (by decide +kernel) rfl, tr_in 51 (by decide +kernel) rfl, mk_X8_figure, by decide +kernel⟩
theorem mk_X8_waitsFrom : Cond.code yX8_waitsFrom cX8_waitsFrom 4 (some .int) ∈ tr_T := tr_in 702 (by decide +kernel) rfl
theorem mz_X8_waitsFrom : tr_Ms yX8_waitsFrom cX8_waitsFrom 4 (some .int) 2 := ⟨tr_in 701 (by decide +kernel) rfl, tr_in 51 (by decide +kernel) rfl, mk_X8_waitsFrom, by decide +kernel⟩
theorem mk_X8_readWait : Cond.code yX8_readWait cX8_readWait 5 (some .boolean) ∈ tr_T := tr_in 699 (by decide +kernel) rfl
theorem mz_X8_readWait : tr_Mv RX8 yX8_readWait cX8_readWait 5 (some .boolean) 0 := ⟨tr_in 698 (by decide +kernel) rfl, tr_in 18 (by decide +kernel) rfl, tr_in 51 (by decide +kernel) rfl, mk_X8_readWait, by decide +kernel⟩
theorem mk_X8_readNet : Cond.code yX8_readNet cX8_readNet 2 (some .int) ∈ tr_T := tr_in 691 (by decide +kernel) rfl
theorem mz_X8_readNet : tr_Mv RX8 yX8_readNet cX8_readNet 2 (some .int) 0 := ⟨tr_in 690 (by decide +kernel) rfl, tr_in 16 (by decide +kernel) rfl, tr_in 51 (by decide +kernel) rfl, mk_X8_readNet, by decide +kernel⟩
theorem mk_X8_fault : Cond.code yX8_fault cX8_fault 1 (some .int) ∈ tr_T := tr_in 687 (by decide +kernel) rfl
theorem mz_X8_fault : tr_Mv RX8 yX8_fault cX8_fault 1 (some .int) 0 := ⟨tr_in 685 (by decide +kernel) rfl, tr_in 686 (by decide +kernel) rfl, tr_in 51 (by decide +kernel) rfl, mk_X8_fault, by decide +kernel⟩
theorem mk_X8_waits : Cond.code yX8_waits cX8_waits 3 (some .int) ∈ tr_T := tr_in 715 (by decide +kernel) rfl
theorem mz_X8_waits : tr_Ms yX8_waits cX8_waits 3 (some .int) 1 := ⟨tr_in 714 (by decide +kernel) rfl, tr_in 51 (by decide +kernel) rfl, mk_X8_waits, by decide +kernel⟩
theorem mk_X8_net : Cond.code yX8_net cX8_net 2 (some .int) ∈ tr_T := tr_in 712 (by decide +kernel) rfl
theorem mz_X8_net : tr_Mv RX8 yX8_net cX8_net 2 (some .int) 0 := ⟨tr_in 710 (by decide +kernel) rfl, tr_in 711 (by decide +kernel) rfl, tr_in 51 (by decide +kernel) rfl, mk_X8_net, by decide +kernel⟩
theorem mk_X8_closeRing : Cond.code yX8_closeRing cX8_closeRing 9 none ∈ tr_T := tr_in 738 (by decide +kernel) rfl
theorem mz_X8_closeRing : tr_Mv RX8 yX8_closeRing cX8_closeRing 9 none 2 := ⟨tr_in 737 (by decide +kernel) rfl, tr_in 22 (by decide +kernel) rfl, tr_in 51 (by decide +kernel) rfl, mk_X8_closeRing, by decide +kernel⟩
theorem mk_X8_isIn : Cond.code yX8_isIn cX8_isIn 5 (some .boolean) ∈ tr_T := tr_in 741 (by decide +kernel) rfl
theorem mz_X8_isIn : tr_Ms yX8_isIn cX8_isIn 5 (some .boolean) 3 := ⟨tr_in 740 (by decide +kernel) rfl, tr_in 51 (by decide +kernel) rfl, mk_X8_isIn, by decide +kernel⟩
theorem mk_X8_ringsFrom : Cond.code yX8_ringsFrom cX8_ringsFrom 7 none ∈ tr_T := tr_in 734 (by decide +kernel) rfl
theorem mz_X8_ringsFrom : tr_Mv RX8 yX8_ringsFrom cX8_ringsFrom 7 none 3 := ⟨tr_in 733 (by decide +kernel) rfl, tr_in 21 (by decide +kernel) rfl, tr_in 51 (by decide +kernel) rfl, mk_X8_ringsFrom, by decide +kernel⟩
theorem mk_X8_findRings : Cond.code yX8_findRings cX8_findRings 4 none ∈ tr_T := tr_in 727 (by decide +kernel) rfl
theorem mz_X8_findRings : tr_Mv RX8 yX8_findRings cX8_findRings 4 none 2 := ⟨tr_in 726 (by decide +kernel) rfl, tr_in 20 (by decide +kernel) rfl, tr_in 51 (by decide +kernel) rfl, mk_X8_findRings, by decide +kernel⟩
theorem mk_X8_find : Cond.code yX8_find cX8_find 2 none ∈ tr_T := tr_in 723 (by decide +kernel) rfl
theorem mz_X8_find : tr_Mv RX8 yX8_find cX8_find 2 none 1 := ⟨tr_in 722 (by decide +kernel) rfl, tr_in 19 (by decide +kernel) rfl, tr_in 51 (by decide +kernel) rfl, mk_X8_find, by decide +kernel⟩
theorem mk_X8_isPeriod : Cond.code yX8_isPeriod cX8_isPeriod 3 (some .boolean) ∈ tr_T := tr_in 752 (by decide +kernel) rfl
theorem mz_X8_isPeriod : tr_Mv RX8 yX8_isPeriod cX8_isPeriod 3 (some .boolean) 2 := ⟨tr_in 751 (by decide +kernel) rfl, tr_in 24 (by decide +kernel) rfl, tr_in 51 (by decide +kernel) rfl, mk_X8_isPeriod, by decide +kernel⟩
theorem mk_X8_leastPeriod : Cond.code yX8_leastPeriod cX8_leastPeriod 2 (some .int) ∈ tr_T := tr_in 748 (by decide +kernel) rfl
theorem mz_X8_leastPeriod : tr_Mv RX8 yX8_leastPeriod cX8_leastPeriod 2 (some .int) 0 := ⟨tr_in 747 (by decide +kernel) rfl, tr_in 23 (by decide +kernel) rfl, tr_in 51 (by decide +kernel) rfl, mk_X8_leastPeriod, by decide +kernel⟩
theorem mk_X8_about : Cond.code yX8_about cX8_about 2 (some .int) ∈ tr_T := tr_in 719 (by decide +kernel) rfl
theorem mz_X8_about : tr_Mv RX8 yX8_about cX8_about 2 (some .int) 1 := ⟨tr_in 717 (by decide +kernel) rfl, tr_in 718 (by decide +kernel) rfl, tr_in 51 (by decide +kernel) rfl, mk_X8_about, by decide +kernel⟩
theorem mk_X8_minutes : Cond.code yX8_minutes cX8_minutes 3 (some .int) ∈ tr_T := tr_in 756 (by decide +kernel) rfl
theorem mz_X8_minutes : tr_Mv RX8 yX8_minutes cX8_minutes 3 (some .int) 2 := ⟨tr_in 754 (by decide +kernel) rfl, tr_in 755 (by decide +kernel) rfl, tr_in 51 (by decide +kernel) rfl, mk_X8_minutes, by decide +kernel⟩
theorem mk_X8_note : Cond.code yX8_note cX8_note 2 none ∈ tr_T := tr_in 769 (by decide +kernel) rfl
theorem mz_X8_note : tr_Mv RX8 yX8_note cX8_note 2 none 0 := ⟨tr_in 768 (by decide +kernel) rfl, tr_in 26 (by decide +kernel) rfl, tr_in 51 (by decide +kernel) rfl, mk_X8_note, by decide +kernel⟩
theorem mk_X8_put : Cond.code yX8_put cX8_put 4 (some .int) ∈ tr_T := tr_in 764 (by decide +kernel) rfl
theorem mz_X8_put : tr_Mv RX8 yX8_put cX8_put 4 (some .int) 3 := ⟨tr_in 762 (by decide +kernel) rfl, tr_in 763 (by decide +kernel) rfl, tr_in 51 (by decide +kernel) rfl, mk_X8_put, by decide +kernel⟩
theorem mk_X8_cut : Cond.code yX8_cut cX8_cut 4 (some .int) ∈ tr_T := tr_in 773 (by decide +kernel) rfl
theorem mz_X8_cut : tr_Mv RX8 yX8_cut cX8_cut 4 (some .int) 2 := ⟨tr_in 771 (by decide +kernel) rfl, tr_in 772 (by decide +kernel) rfl, tr_in 51 (by decide +kernel) rfl, mk_X8_cut, by decide +kernel⟩
theorem mk_X8_time : Cond.code yX8_time cX8_time 5 (some .int) ∈ tr_T := tr_in 777 (by decide +kernel) rfl
theorem mz_X8_time : tr_Mv RX8 yX8_time cX8_time 5 (some .int) 3 := ⟨tr_in 775 (by decide +kernel) rfl, tr_in 776 (by decide +kernel) rfl, tr_in 51 (by decide +kernel) rfl, mk_X8_time, by decide +kernel⟩
theorem mk_X8_undo : Cond.code yX8_undo cX8_undo 2 (some .int) ∈ tr_T := tr_in 781 (by decide +kernel) rfl
theorem mz_X8_undo : tr_Mv RX8 yX8_undo cX8_undo 2 (some .int) 0 := ⟨tr_in 779 (by decide +kernel) rfl, tr_in 780 (by decide +kernel) rfl, tr_in 51 (by decide +kernel) rfl, mk_X8_undo, by decide +kernel⟩
theorem mk_X8_divisor : Cond.code yX8_divisor cX8_divisor 5 (some .int) ∈ tr_T := tr_in 791 (by decide +kernel) rfl
theorem mz_X8_divisor : tr_Ms yX8_divisor cX8_divisor 5 (some .int) 2 := ⟨tr_in 790 (by decide +kernel) rfl, tr_in 51 (by decide +kernel) rfl, mk_X8_divisor, by decide +kernel⟩
theorem mk_X8_fraction : Cond.code yX8_fraction cX8_fraction 4 (some .int) ∈ tr_T := tr_in 788 (by decide +kernel) rfl
theorem mz_X8_fraction : tr_Ms yX8_fraction cX8_fraction 4 (some .int) 3 := ⟨tr_in 787 (by decide +kernel) rfl, tr_in 51 (by decide +kernel) rfl, mk_X8_fraction, by decide +kernel⟩
theorem mk_X8_pace : Cond.code yX8_pace cX8_pace 2 (some .int) ∈ tr_T := tr_in 785 (by decide +kernel) rfl
theorem mz_X8_pace : tr_Mv RX8 yX8_pace cX8_pace 2 (some .int) 1 := ⟨tr_in 783 (by decide +kernel) rfl, tr_in 784 (by decide +kernel) rfl, tr_in 51 (by decide +kernel) rfl, mk_X8_pace, by decide +kernel⟩
theorem mk_X8_critical : Cond.code yX8_critical cX8_critical 3 (some .int) ∈ tr_T := tr_in 795 (by decide +kernel) rfl
theorem mz_X8_critical : tr_Mv RX8 yX8_critical cX8_critical 3 (some .int) 2 := ⟨tr_in 793 (by decide +kernel) rfl, tr_in 794 (by decide +kernel) rfl, tr_in 51 (by decide +kernel) rfl, mk_X8_critical, by decide +kernel⟩
theorem mk_X8_layTimes : Cond.code yX8_layTimes cX8_layTimes 7 none ∈ tr_T := tr_in 804 (by decide +kernel) rfl
theorem mz_X8_layTimes : tr_Mv RX8 yX8_layTimes cX8_layTimes 7 none 2 := ⟨tr_in 803 (by decide +kernel) rfl, tr_in 27 (by decide +kernel) rfl, tr_in 51 (by decide +kernel) rfl, mk_X8_layTimes, by decide +kernel⟩
theorem mk_X8_spareOf : Cond.code yX8_spareOf cX8_spareOf 5 (some .int) ∈ tr_T := tr_in 812 (by decide +kernel) rfl
theorem mz_X8_spareOf : tr_Mv RX8 yX8_spareOf cX8_spareOf 5 (some .int) 4 := ⟨tr_in 811 (by decide +kernel) rfl, tr_in 28 (by decide +kernel) rfl, tr_in 51 (by decide +kernel) rfl, mk_X8_spareOf, by decide +kernel⟩
theorem mk_X8_departs : Cond.code yX8_departs cX8_departs 3 (some .int) ∈ tr_T := tr_in 799 (by decide +kernel) rfl
theorem mz_X8_departs : tr_Mv RX8 yX8_departs cX8_departs 3 (some .int) 2 := ⟨tr_in 797 (by decide +kernel) rfl, tr_in 798 (by decide +kernel) rfl, tr_in 51 (by decide +kernel) rfl, mk_X8_departs, by decide +kernel⟩
theorem mk_X8_spare : Cond.code yX8_spare cX8_spare 4 (some .int) ∈ tr_T := tr_in 808 (by decide +kernel) rfl
theorem mz_X8_spare : tr_Mv RX8 yX8_spare cX8_spare 4 (some .int) 3 := ⟨tr_in 806 (by decide +kernel) rfl, tr_in 807 (by decide +kernel) rfl, tr_in 51 (by decide +kernel) rfl, mk_X8_spare, by decide +kernel⟩
theorem mk_X8_beginLate : Cond.code yX8_beginLate cX8_beginLate 4 none ∈ tr_T := tr_in 822 (by decide +kernel) rfl
theorem mz_X8_beginLate : tr_Mv RX8 yX8_beginLate cX8_beginLate 4 none 2 := ⟨tr_in 821 (by decide +kernel) rfl, tr_in 29 (by decide +kernel) rfl, tr_in 51 (by decide +kernel) rfl, mk_X8_beginLate, by decide +kernel⟩
theorem mk_X8_goRound : Cond.code yX8_goRound cX8_goRound 7 (some .int) ∈ tr_T := tr_in 826 (by decide +kernel) rfl
theorem mz_X8_goRound : tr_Mv RX8 yX8_goRound cX8_goRound 7 (some .int) 2 := ⟨tr_in 825 (by decide +kernel) rfl, tr_in 30 (by decide +kernel) rfl, tr_in 51 (by decide +kernel) rfl, mk_X8_goRound, by decide +kernel⟩
theorem mk_X8_late : Cond.code yX8_late cX8_late 7 (some .int) ∈ tr_T := tr_in 816 (by decide +kernel) rfl
theorem mz_X8_late : tr_Mv RX8 yX8_late cX8_late 7 (some .int) 5 := ⟨tr_in 814 (by decide +kernel) rfl, tr_in 815 (by decide +kernel) rfl, tr_in 51 (by decide +kernel) rfl, mk_X8_late, by decide +kernel⟩
theorem mk_X8_diesOf : Cond.code yX8_diesOf cX8_diesOf 6 (some .int) ∈ tr_T := tr_in 834 (by decide +kernel) rfl
theorem mz_X8_diesOf : tr_Mv RX8 yX8_diesOf cX8_diesOf 6 (some .int) 4 := ⟨tr_in 833 (by decide +kernel) rfl, tr_in 31 (by decide +kernel) rfl, tr_in 51 (by decide +kernel) rfl, mk_X8_diesOf, by decide +kernel⟩
theorem mk_X8_dies : Cond.code yX8_dies cX8_dies 4 (some .int) ∈ tr_T := tr_in 830 (by decide +kernel) rfl
theorem mz_X8_dies : tr_Mv RX8 yX8_dies cX8_dies 4 (some .int) 3 := ⟨tr_in 828 (by decide +kernel) rfl, tr_in 829 (by decide +kernel) rfl, tr_in 51 (by decide +kernel) rfl, mk_X8_dies, by decide +kernel⟩
theorem mk_X8_begin : Cond.code yX8_begin cX8_begin 2 none ∈ tr_T := tr_in 842 (by decide +kernel) rfl
theorem mz_X8_begin : tr_Mv RX8 yX8_begin cX8_begin 2 none 0 := ⟨tr_in 841 (by decide +kernel) rfl, tr_in 32 (by decide +kernel) rfl, tr_in 51 (by decide +kernel) rfl, mk_X8_begin, by decide +kernel⟩
theorem mk_X8_sixtiethsOf : Cond.code yX8_sixtiethsOf cX8_sixtiethsOf 3 (some .int) ∈ tr_T := tr_in 846 (by decide +kernel) rfl
theorem mz_X8_sixtiethsOf : tr_Mv RX8 yX8_sixtiethsOf cX8_sixtiethsOf 3 (some .int) 2 := ⟨tr_in 845 (by decide +kernel) rfl, tr_in 33 (by decide +kernel) rfl, tr_in 51 (by decide +kernel) rfl, mk_X8_sixtiethsOf, by decide +kernel⟩
theorem mk_X8_best : Cond.code yX8_best cX8_best 7 (some .int) ∈ tr_T := tr_in 838 (by decide +kernel) rfl
theorem mz_X8_best : tr_Mv RX8 yX8_best cX8_best 7 (some .int) 1 := ⟨tr_in 836 (by decide +kernel) rfl, tr_in 837 (by decide +kernel) rfl, tr_in 51 (by decide +kernel) rfl, mk_X8_best, by decide +kernel⟩
theorem mk_X8_longPower : Cond.code yX8_longPower cX8_longPower 6 (some .long) ∈ tr_T := tr_in 855 (by decide +kernel) rfl
theorem mz_X8_longPower : tr_Ms yX8_longPower cX8_longPower 6 (some .long) 2 := ⟨tr_in 854 (by decide +kernel) rfl, tr_in 51 (by decide +kernel) rfl, mk_X8_longPower, by decide +kernel⟩
theorem mk_X8_sets : Cond.code yX8_sets cX8_sets 6 (some .boolean) ∈ tr_T := tr_in 863 (by decide +kernel) rfl
theorem mz_X8_sets : tr_Mv RX8 yX8_sets cX8_sets 6 (some .boolean) 4 := ⟨tr_in 862 (by decide +kernel) rfl, tr_in 35 (by decide +kernel) rfl, tr_in 51 (by decide +kernel) rfl, mk_X8_sets, by decide +kernel⟩
theorem mk_X8_isCritical : Cond.code yX8_isCritical cX8_isCritical 3 (some .boolean) ∈ tr_T := tr_in 867 (by decide +kernel) rfl
theorem mz_X8_isCritical : tr_Mv RX8 yX8_isCritical cX8_isCritical 3 (some .boolean) 2 := ⟨tr_in 866 (by decide +kernel) rfl, tr_in 36 (by decide +kernel) rfl, tr_in 51 (by decide +kernel) rfl, mk_X8_isCritical, by decide +kernel⟩
theorem mk_X8_isTime : Cond.code yX8_isTime cX8_isTime 3 (some .boolean) ∈ tr_T := tr_in 871 (by decide +kernel) rfl
theorem mz_X8_isTime : tr_Mv RX8 yX8_isTime cX8_isTime 3 (some .boolean) 2 := ⟨tr_in 870 (by decide +kernel) rfl, tr_in 37 (by decide +kernel) rfl, tr_in 51 (by decide +kernel) rfl, mk_X8_isTime, by decide +kernel⟩
theorem mk_X8_does : Cond.code yX8_does cX8_does 6 (some .boolean) ∈ tr_T := tr_in 859 (by decide +kernel) rfl
theorem mz_X8_does : tr_Mv RX8 yX8_does cX8_does 6 (some .boolean) 1 := ⟨tr_in 858 (by decide +kernel) rfl, tr_in 34 (by decide +kernel) rfl, tr_in 51 (by decide +kernel) rfl, mk_X8_does, by decide +kernel⟩
theorem mk_X8_judge : Cond.code yX8_judge cX8_judge 5 (some .int) ∈ tr_T := tr_in 850 (by decide +kernel) rfl
theorem mz_X8_judge : tr_Mv RX8 yX8_judge cX8_judge 5 (some .int) 2 := ⟨tr_in 848 (by decide +kernel) rfl, tr_in 849 (by decide +kernel) rfl, tr_in 51 (by decide +kernel) rfl, mk_X8_judge, by decide +kernel⟩
theorem mk_X8_orders : Cond.code yX8_orders cX8_orders 4 (some .int) ∈ tr_T := tr_in 878 (by decide +kernel) rfl
theorem mz_X8_orders : tr_Ms yX8_orders cX8_orders 4 (some .int) 2 := ⟨tr_in 877 (by decide +kernel) rfl, tr_in 51 (by decide +kernel) rfl, mk_X8_orders, by decide +kernel⟩
theorem mk_X8_share : Cond.code yX8_share cX8_share 8 (some .int) ∈ tr_T := tr_in 875 (by decide +kernel) rfl
theorem mz_X8_share : tr_Mv RX8 yX8_share cX8_share 8 (some .int) 2 := ⟨tr_in 873 (by decide +kernel) rfl, tr_in 874 (by decide +kernel) rfl, tr_in 51 (by decide +kernel) rfl, mk_X8_share, by decide +kernel⟩
theorem mk_X8_see : Cond.code yX8_see cX8_see 4 (some .int) ∈ tr_T := tr_in 882 (by decide +kernel) rfl
theorem mz_X8_see : tr_Mv RX8 yX8_see cX8_see 4 (some .int) 3 := ⟨tr_in 880 (by decide +kernel) rfl, tr_in 881 (by decide +kernel) rfl, tr_in 51 (by decide +kernel) rfl, mk_X8_see, by decide +kernel⟩
theorem mk_X8_unsee : Cond.code yX8_unsee cX8_unsee 2 (some .int) ∈ tr_T := tr_in 886 (by decide +kernel) rfl
theorem mz_X8_unsee : tr_Mv RX8 yX8_unsee cX8_unsee 2 (some .int) 0 := ⟨tr_in 884 (by decide +kernel) rfl, tr_in 885 (by decide +kernel) rfl, tr_in 51 (by decide +kernel) rfl, mk_X8_unsee, by decide +kernel⟩
theorem mk_X8_explains : Cond.code yX8_explains cX8_explains 6 (some .boolean) ∈ tr_T := tr_in 894 (by decide +kernel) rfl
theorem mz_X8_explains : tr_Mv RX8 yX8_explains cX8_explains 6 (some .boolean) 2 := ⟨tr_in 893 (by decide +kernel) rfl, tr_in 38 (by decide +kernel) rfl, tr_in 51 (by decide +kernel) rfl, mk_X8_explains, by decide +kernel⟩
theorem mk_X8_began : Cond.code yX8_began cX8_began 5 (some .int) ∈ tr_T := tr_in 890 (by decide +kernel) rfl
theorem mz_X8_began : tr_Mv RX8 yX8_began cX8_began 5 (some .int) 1 := ⟨tr_in 888 (by decide +kernel) rfl, tr_in 889 (by decide +kernel) rfl, tr_in 51 (by decide +kernel) rfl, mk_X8_began, by decide +kernel⟩
theorem mk_X8_drops : Cond.code yX8_drops cX8_drops 5 (some .int) ∈ tr_T := tr_in 903 (by decide +kernel) rfl
theorem mz_X8_drops : tr_Mv RX8 yX8_drops cX8_drops 5 (some .int) 2 := ⟨tr_in 902 (by decide +kernel) rfl, tr_in 39 (by decide +kernel) rfl, tr_in 51 (by decide +kernel) rfl, mk_X8_drops, by decide +kernel⟩
theorem mk_X8_dropped : Cond.code yX8_dropped cX8_dropped 9 (some .int) ∈ tr_T := tr_in 898 (by decide +kernel) rfl
theorem mz_X8_dropped : tr_Mv RX8 yX8_dropped cX8_dropped 9 (some .int) 4 := ⟨tr_in 896 (by decide +kernel) rfl, tr_in 897 (by decide +kernel) rfl, tr_in 51 (by decide +kernel) rfl, mk_X8_dropped, by decide +kernel⟩
theorem mk_X8_seed : Cond.code yX8_seed cX8_seed 5 (some .long) ∈ tr_T := tr_in 910 (by decide +kernel) rfl
theorem mz_X8_seed : tr_Mv RX8 yX8_seed cX8_seed 5 (some .long) 1 := ⟨tr_in 908 (by decide +kernel) rfl, tr_in 909 (by decide +kernel) rfl, tr_in 51 (by decide +kernel) rfl, mk_X8_seed, by decide +kernel⟩
theorem mk_X8_draw : Cond.code yX8_draw cX8_draw 4 none ∈ tr_T := tr_in 920 (by decide +kernel) rfl
theorem mz_X8_draw : tr_Mv RX8 yX8_draw cX8_draw 4 none 3 := ⟨tr_in 919 (by decide +kernel) rfl, tr_in 40 (by decide +kernel) rfl, tr_in 51 (by decide +kernel) rfl, mk_X8_draw, by decide +kernel⟩
theorem mk_X8_drawn : Cond.code yX8_drawn cX8_drawn 5 (some .int) ∈ tr_T := tr_in 914 (by decide +kernel) rfl
theorem mz_X8_drawn : tr_Mv RX8 yX8_drawn cX8_drawn 5 (some .int) 1 := ⟨tr_in 912 (by decide +kernel) rfl, tr_in 913 (by decide +kernel) rfl, tr_in 51 (by decide +kernel) rfl, mk_X8_drawn, by decide +kernel⟩
theorem mk_X8_keep : Cond.code yX8_keep cX8_keep 3 (some .int) ∈ tr_T := tr_in 924 (by decide +kernel) rfl
theorem mz_X8_keep : tr_Mv RX8 yX8_keep cX8_keep 3 (some .int) 1 := ⟨tr_in 922 (by decide +kernel) rfl, tr_in 923 (by decide +kernel) rfl, tr_in 51 (by decide +kernel) rfl, mk_X8_keep, by decide +kernel⟩
theorem mk_X8_again : Cond.code yX8_again cX8_again 3 (some .int) ∈ tr_T := tr_in 928 (by decide +kernel) rfl
theorem mz_X8_again : tr_Mv RX8 yX8_again cX8_again 3 (some .int) 1 := ⟨tr_in 926 (by decide +kernel) rfl, tr_in 927 (by decide +kernel) rfl, tr_in 51 (by decide +kernel) rfl, mk_X8_again, by decide +kernel⟩
theorem mk_J6_bitCount_0f7a4 : Cond.code yJ6_bitCount_0f7a4 cJ6_bitCount_0f7a4 1 (some .int) ∈ tr_T := tr_in 319 (by decide +kernel) rfl
theorem mz_J6_bitCount_0f7a4 : tr_Ms yJ6_bitCount_0f7a4 cJ6_bitCount_0f7a4 1 (some .int) 1 := ⟨tr_in 318 (by decide +kernel) rfl, tr_in 54 (by decide +kernel) rfl, mk_J6_bitCount_0f7a4, by decide +kernel⟩
theorem mk_J7_fill_53178 : Cond.code yJ7_fill_53178 cJ7_fill_53178 4 none ∈ tr_T := tr_in 71 (by decide +kernel) rfl
theorem mz_J7_fill_53178 : tr_Ms yJ7_fill_53178 cJ7_fill_53178 4 none 2 := ⟨tr_in 70 (by decide +kernel) rfl, tr_in 44 (by decide +kernel) rfl, mk_J7_fill_53178, by decide +kernel⟩
theorem mc_J6_265 : Cond.constant RJ6 265 (1431655765) ∈ tr_T := tr_in 320 (by decide +kernel) rfl
theorem mc_J6_266 : Cond.constant RJ6 266 (858993459) ∈ tr_T := tr_in 321 (by decide +kernel) rfl
theorem mc_J6_267 : Cond.constant RJ6 267 (252645135) ∈ tr_T := tr_in 322 (by decide +kernel) rfl
theorem mc_X0_46 : Cond.constant RX0 46 (1000000) ∈ tr_T := tr_in 467 (by decide +kernel) rfl
theorem mc_X6_44 : Cond.constant RX6 44 (1000000) ∈ tr_T := tr_in 350 (by decide +kernel) rfl
theorem mc_X6_61 : Cond.constant RX6 61 (-1000000) ∈ tr_T := tr_in 357 (by decide +kernel) rfl
theorem mc_X7_168 : Cond.constant RX7 168 (1000000) ∈ tr_T := tr_in 495 (by decide +kernel) rfl
theorem mc_X7_201 : Cond.constantLong RX7 201 (6364136223846793005) ∈ tr_T := tr_in 562 (by decide +kernel) rfl
theorem mc_X7_203 : Cond.constantLong RX7 203 (1442695040888963407) ∈ tr_T := tr_in 563 (by decide +kernel) rfl
theorem mc_X7_220 : Cond.constantLong RX7 220 (10000) ∈ tr_T := tr_in 505 (by decide +kernel) rfl
theorem mc_X8_71 : Cond.constantLong RX8 71 (255) ∈ tr_T := tr_in 676 (by decide +kernel) rfl
theorem mc_X8_168 : Cond.constantLong RX8 168 (9) ∈ tr_T := tr_in 765 (by decide +kernel) rfl
theorem mc_X8_181 : Cond.constantLong RX8 181 (20) ∈ tr_T := tr_in 800 (by decide +kernel) rfl
theorem mc_X8_190 : Cond.constantLong RX8 190 (30) ∈ tr_T := tr_in 817 (by decide +kernel) rfl
theorem mc_X8_192 : Cond.constantLong RX8 192 (40) ∈ tr_T := tr_in 818 (by decide +kernel) rfl
theorem mc_X8_220 : Cond.constantLong RX8 220 (4) ∈ tr_T := tr_in 851 (by decide +kernel) rfl
theorem mc_X8_222 : Cond.constantLong RX8 222 (10000) ∈ tr_T := tr_in 852 (by decide +kernel) rfl
theorem mc_X8_243 : Cond.constantLong RX8 243 (10) ∈ tr_T := tr_in 899 (by decide +kernel) rfl
theorem mc_X8_254 : Cond.constantLong RX8 254 (6364136223846793005) ∈ tr_T := tr_in 915 (by decide +kernel) rfl
theorem mc_X8_256 : Cond.constantLong RX8 256 (1442695040888963407) ∈ tr_T := tr_in 916 (by decide +kernel) rfl
theorem mm_max : (Cond.static Lib.Math.max.name ∈ tr_T ∧ Cond.initialized "java/lang/Math" ∈ tr_T) ∧ Cond.code Lib.Math.max.name Lib.Math.max.code 2 (some .int) ∈ tr_T := ⟨⟨tr_in 255 (by decide +kernel) rfl, tr_in 52 (by decide +kernel) rfl⟩, tr_in 256 (by decide +kernel) rfl⟩
theorem mm_min : (Cond.static Lib.Math.min.name ∈ tr_T ∧ Cond.initialized "java/lang/Math" ∈ tr_T) ∧ Cond.code Lib.Math.min.name Lib.Math.min.code 2 (some .int) ∈ tr_T := ⟨⟨tr_in 252 (by decide +kernel) rfl, tr_in 52 (by decide +kernel) rfl⟩, tr_in 253 (by decide +kernel) rfl⟩
theorem mm_copy : (Cond.native arraycopyName ∈ tr_T ∧ Cond.static arraycopyName ∈ tr_T) ∧ Cond.initialized "java/lang/System" ∈ tr_T := ⟨⟨tr_in 289 (by decide +kernel) rfl, tr_in 288 (by decide +kernel) rfl⟩, tr_in 53 (by decide +kernel) rfl⟩
def tr_max (x y : Int32) : Int32 := if x < y then y else x
def tr_min (x y : Int32) : Int32 := if y < x then y else x
section TRF
variable {p : Program} {l : Launch} {e : Env} {R : Room} {s : State} {m : MethodId} {args : Array Value} {below : List Frame} {meth : Method} {c : Code} {H : Heap} {locs : List Loc} {cells slots : Nat} {Q : State → Prop}
variable {cc : ByteArray} {nL pc idx : Nat} {own : String} {Y : tr_Y} {w : tr_E} {h : tr_H} {ls : Array Slot} {rest : List Value} {lv : List (Nat × Value)}
theorem tr_mx {x y : Int32} (C : tr_Cx p s m args c cc nL own Y w) (hl : lv_has ls nL lv) (hlk : Cond.methodLink own idx Lib.Math.max.name ∈ tr_T) (hR : 1 ≤ R.frames ∧ (rest.map fun v => v.category).sum + 13 ≤ R.locals) (hf : cells ≤ R.cells ∧ slots ≤ R.slots) (hdg : decode cc pc = .ok (.invokestatic idx, 3))
    (kk : W p l e R s m args below meth c H locs cells slots Q (F0 m (pc + 3) ls (.int (tr_max x y) :: rest))) : W p l e R s m args below meth c H locs cells slots Q (F0 m pc ls (.int y :: .int x :: rest)) := by
  obtain ⟨hx, hb, hml, hown, hts, hG⟩ := C
  exact va_mmax hx hb (hml.trans hl.1.symm) hown (hts _ hlk) (hts _ mm_max.1.1) (hts _ mm_max.1.2) (hts _ mm_max.2) hR.1 hR.2 hf.1 hf.2 hdg kk
theorem tr_mn {x y : Int32} (C : tr_Cx p s m args c cc nL own Y w) (hl : lv_has ls nL lv) (hlk : Cond.methodLink own idx Lib.Math.min.name ∈ tr_T) (hR : 1 ≤ R.frames ∧ (rest.map fun v => v.category).sum + 13 ≤ R.locals) (hf : cells ≤ R.cells ∧ slots ≤ R.slots) (hdg : decode cc pc = .ok (.invokestatic idx, 3))
    (kk : W p l e R s m args below meth c H locs cells slots Q (F0 m (pc + 3) ls (.int (tr_min x y) :: rest))) : W p l e R s m args below meth c H locs cells slots Q (F0 m pc ls (.int y :: .int x :: rest)) := by
  obtain ⟨hx, hb, hml, hown, hts, hG⟩ := C
  exact va_mmin hx hb (hml.trans hl.1.symm) hown (hts _ hlk) (hts _ mm_min.1.1) (hts _ mm_min.1.2) (hts _ mm_min.2) hR.1 hR.2 hf.1 hf.2 hdg kk
def tr_cp (h : tr_H) (i j : Nat) : tr_H := tr_sa h j (va_cpy (h.1 i) (h.1 j) 0 0 36)
theorem tr_acp {i j : Nat} (C : tr_Cx p s m args c cc nL own Y w) (hP : va_P w.1 vwCl (tr_cs Y w h) H) (hS : va_S (tr_R Y w) s.heap H locs) (hl : lv_has ls nL lv) (ha1 : tr_Ar Y w i 36) (ha2 : tr_Ar Y w j 36) (hlk : Cond.methodLink own idx arraycopyName ∈ tr_T) (hR : 1 ≤ R.frames ∧ (rest.map fun v => v.category).sum + (nativeFrameWords "java/lang/System" "arraycopy" 5 + 11) ≤ R.locals) (hdg : decode cc pc = .ok (.invokestatic idx, 3))
    (kk : ∀ (H1 : Heap) (locs1 : List Loc), va_P w.1 vwCl (tr_cs Y w (tr_cp h i j)) H1 → va_S (tr_R Y w) s.heap H1 locs1 → W p l e R s m args below meth c H1 locs1 cells slots Q (F0 m (pc + 3) ls rest)) : W p l e R s m args below meth c H locs cells slots Q (F0 m pc ls (.int 36 :: .int 0 :: .ref (tr_ad w j) :: .int 0 :: .ref (tr_ad w i) :: rest)) := by
  obtain ⟨hx, hb, hml, hown, hts, hG⟩ := C
  refine va_copyi (ty := .int) hx hb (hml.trans hl.1.symm) hown (hts _ hlk) (hts _ mm_copy.1.1) (hts _ mm_copy.1.2) (hts _ mm_copy.2) hG.1 hP (hG.2.1.D h) hS i j 0 0 (by rw [tr_cs_at ha1.1, ha1.2]) (by rw [tr_cs_at ha2.1, ha2.2]) rfl rfl rfl (by decide) (by decide) (by decide) (by decide) (by decide) (fun _ _ => rfl) hR.1 hR.2 hdg (fun H1 locs1 hP1 hD1 hS1 => ?_)
  have hP2 := hP1
  rw [tr_cs_seta ha2.1 (ha2.2 _ _)] at hP2
  exact kk H1 locs1 hP2 hS1
theorem tr_nal (C : tr_Cx p s m args c cc nL own tr_X w) (hP : va_P w.1 vwCl (tr_cs tr_X w h) H) {i : Int32} (hin : vp_in i 2) (hdg : decode cc pc = .ok (.aaload, 1))
    (kk : W p l e R s m args below meth c H locs cells slots Q (F0 m (pc + 1) ls (.ref (tr_ad w (6 + 2 * i.toNatClampNeg)) :: rest))) : W p l e R s m args below meth c H locs cells slots Q (F0 m pc ls (.int i :: .ref (tr_ad w 10) :: rest)) := by
  obtain ⟨hx, hb, hml, hown, hts, hG⟩ := C
  exact va_aldq (f := fun k => some (tr_ad w (6 + 2 * k))) hx hb hG.1 hP 10 2 (tr_cs_at (by decide)) rfl hin hdg kk
theorem tr_s0 (C : tr_Cx p s m args c cc nL own Y w) (hS : va_S (tr_R Y w) s.heap H locs) {i : Int32} (hin : vp_in i 7) (hdg : decode cc pc = .ok (.iaload, 1))
    (kk : W p l e R s m args below meth c H locs cells slots Q (F0 m (pc + 1) ls (.int (tr_f0 i.toNatClampNeg) :: rest))) : W p l e R s m args below meth c H locs cells slots Q (F0 m pc ls (.int i :: .ref (w.2.2.2 0) :: rest)) := by
  obtain ⟨hx, hb, hml, hown, hts, hG⟩ := C
  exact va_ti hx hb hG.2.2.2.2.1 hS hin rfl hdg kk
theorem tr_s1 (C : tr_Cx p s m args c cc nL own Y w) (hS : va_S (tr_R Y w) s.heap H locs) {i : Int32} (hin : vp_in i 7) (hdg : decode cc pc = .ok (.iaload, 1))
    (kk : W p l e R s m args below meth c H locs cells slots Q (F0 m (pc + 1) ls (.int (tr_f1 i.toNatClampNeg) :: rest))) : W p l e R s m args below meth c H locs cells slots Q (F0 m pc ls (.int i :: .ref (w.2.2.2 1) :: rest)) := by
  obtain ⟨hx, hb, hml, hown, hts, hG⟩ := C
  exact va_ti hx hb hG.2.2.2.2.2.2.1 hS hin rfl hdg kk
theorem tr_s2 (C : tr_Cx p s m args c cc nL own Y w) (hS : va_S (tr_R Y w) s.heap H locs) {i : Int32} (hin : vp_in i 5) (hdg : decode cc pc = .ok (.laload, 1))
    (kk : W p l e R s m args below meth c H locs cells slots Q (F0 m (pc + 1) ls (.long (tr_f2 i.toNatClampNeg) :: rest))) : W p l e R s m args below meth c H locs cells slots Q (F0 m pc ls (.int i :: .ref (w.2.2.2 2) :: rest)) := by
  obtain ⟨hx, hb, hml, hown, hts, hG⟩ := C
  exact va_tl hx hb hG.2.2.2.2.2.2.2.2 hS hin rfl hdg kk
theorem gs_X4_52 (C : tr_Cx p s m args c cc nL RX4 Y w) (hS : va_S (tr_R Y w) s.heap H locs) (hdg : decode cc pc = .ok (.getstatic 52, 3))
    (kk : W p l e R s m args below meth c H locs cells slots Q (F0 m (pc + 3) ls (.ref (w.2.2.2 0) :: rest))) : W p l e R s m args below meth c H locs cells slots Q (F0 m pc ls rest) := by
  obtain ⟨hx, hb, hml, hown, hts, hG⟩ := C
  exact va_getsN (ref := "TurnRounds") (host := "TurnRounds") hx hb hG.2.2.2.1 hS hown (va_Nw.use rfl (hG.2.2.1 ("TurnRounds$RingSets", 52, "TurnRounds", "SIXTIETHS", "[I", "TurnRounds") (by decide +kernel))) (fun _ h9 => h9) hdg kk
theorem gs_X4_65 (C : tr_Cx p s m args c cc nL RX4 Y w) (hS : va_S (tr_R Y w) s.heap H locs) (hdg : decode cc pc = .ok (.getstatic 65, 3))
    (kk : W p l e R s m args below meth c H locs cells slots Q (F0 m (pc + 3) ls (.ref (w.2.2.2 1) :: rest))) : W p l e R s m args below meth c H locs cells slots Q (F0 m pc ls rest) := by
  obtain ⟨hx, hb, hml, hown, hts, hG⟩ := C
  exact va_getsN (ref := "TurnRounds") (host := "TurnRounds") hx hb hG.2.2.2.2.2.1 hS hown (va_Nw.use rfl (hG.2.2.1 ("TurnRounds$RingSets", 65, "TurnRounds", "FACTORIALS", "[I", "TurnRounds") (by decide +kernel))) (fun _ h9 => h9) hdg kk
theorem gs_X6_45 (C : tr_Cx p s m args c cc nL RX6 Y w) (hS : va_S (tr_R Y w) s.heap H locs) (hdg : decode cc pc = .ok (.getstatic 45, 3))
    (kk : W p l e R s m args below meth c H locs cells slots Q (F0 m (pc + 3) ls (.ref (w.2.2.2 0) :: rest))) : W p l e R s m args below meth c H locs cells slots Q (F0 m pc ls rest) := by
  obtain ⟨hx, hb, hml, hown, hts, hG⟩ := C
  exact va_getsN (ref := "TurnRounds") (host := "TurnRounds") hx hb hG.2.2.2.1 hS hown (va_Nw.use rfl (hG.2.2.1 ("TurnRounds$Walks", 45, "TurnRounds", "SIXTIETHS", "[I", "TurnRounds") (by decide +kernel))) (fun _ h9 => h9) hdg kk
theorem gs_X7_173 (C : tr_Cx p s m args c cc nL RX7 Y w) (hS : va_S (tr_R Y w) s.heap H locs) (hdg : decode cc pc = .ok (.getstatic 173, 3))
    (kk : W p l e R s m args below meth c H locs cells slots Q (F0 m (pc + 3) ls (.ref (w.2.2.2 2) :: rest))) : W p l e R s m args below meth c H locs cells slots Q (F0 m pc ls rest) := by
  obtain ⟨hx, hb, hml, hown, hts, hG⟩ := C
  exact va_gets (ref := "TurnRounds") hx hb hG.2.2.2.2.2.2.2.1 hS hown (hts _ (tr_in (x := Cond.fieldLink RX7 173 "TurnRounds" "ROW_ENDS" "[J") 500 (by decide +kernel) rfl)) (fun _ h9 => h9) hdg kk
theorem gs_X7_184 (C : tr_Cx p s m args c cc nL RX7 Y w) (hS : va_S (tr_R Y w) s.heap H locs) (hdg : decode cc pc = .ok (.getstatic 184, 3))
    (kk : W p l e R s m args below meth c H locs cells slots Q (F0 m (pc + 3) ls (.ref (w.2.2.2 1) :: rest))) : W p l e R s m args below meth c H locs cells slots Q (F0 m pc ls rest) := by
  obtain ⟨hx, hb, hml, hown, hts, hG⟩ := C
  exact va_gets (ref := "TurnRounds") hx hb hG.2.2.2.2.2.1 hS hown (hts _ (tr_in (x := Cond.fieldLink RX7 184 "TurnRounds" "FACTORIALS" "[I") 522 (by decide +kernel) rfl)) (fun _ h9 => h9) hdg kk
theorem mf_X0_9 : Cond.fieldLink RX0 9 RX0 (TX0 0).2.1 (TX0 0).2.2.1 ∈ tr_T := tr_in 161 (by decide +kernel) rfl
theorem gf_X0_9 (C : tr_Cx p s m args c cc nL RX0 tr_X w) (hP : va_P w.1 vwCl (tr_cs tr_X w h) H) (hdg : decode cc pc = .ok (.getfield 9, 3))
    (kk : W p l e R s m args below meth c H locs cells slots Q (F0 m (pc + 3) ls (.ref (tr_ad w 25) :: rest))) : W p l e R s m args below meth c H locs cells slots Q (F0 m pc ls (.ref (tr_ad w 24) :: rest)) :=
  tr_gf (i := 24) (k := 0) C hP (by decide) rfl rfl hinX0 (by decide) mf_X0_9 rfl rfl hdg kk
theorem mf_X0_15 : Cond.fieldLink RX0 15 RX0 (TX0 1).2.1 (TX0 1).2.2.1 ∈ tr_T := tr_in 162 (by decide +kernel) rfl
theorem gf_X0_15 (C : tr_Cx p s m args c cc nL RX0 tr_X w) (hP : va_P w.1 vwCl (tr_cs tr_X w h) H) (hdg : decode cc pc = .ok (.getfield 15, 3))
    (kk : W p l e R s m args below meth c H locs cells slots Q (F0 m (pc + 3) ls (.ref (tr_ad w 26) :: rest))) : W p l e R s m args below meth c H locs cells slots Q (F0 m pc ls (.ref (tr_ad w 24) :: rest)) :=
  tr_gf (i := 24) (k := 1) C hP (by decide) rfl rfl hinX0 (by decide) mf_X0_15 rfl rfl hdg kk
theorem mf_X0_18 : Cond.fieldLink RX0 18 RX0 (TX0 2).2.1 (TX0 2).2.2.1 ∈ tr_T := tr_in 163 (by decide +kernel) rfl
theorem gf_X0_18 (C : tr_Cx p s m args c cc nL RX0 tr_X w) (hP : va_P w.1 vwCl (tr_cs tr_X w h) H) (hdg : decode cc pc = .ok (.getfield 18, 3))
    (kk : W p l e R s m args below meth c H locs cells slots Q (F0 m (pc + 3) ls (.int (h.1 24 2) :: rest))) : W p l e R s m args below meth c H locs cells slots Q (F0 m pc ls (.ref (tr_ad w 24) :: rest)) :=
  tr_gf (i := 24) (k := 2) C hP (by decide) rfl rfl hinX0 (by decide) mf_X0_18 rfl rfl hdg kk
theorem pf_X0_18 {v : Int32} (C : tr_Cx p s m args c cc nL RX0 tr_X w) (hP : va_P w.1 vwCl (tr_cs tr_X w h) H) (hS : va_S (tr_R tr_X w) s.heap H locs) (hdg : decode cc pc = .ok (.putfield 18, 3))
    (kk : ∀ (H1 : Heap) (locs1 : List Loc), va_P w.1 vwCl (tr_cs tr_X w (tr_si h 24 2 v)) H1 → va_S (tr_R tr_X w) s.heap H1 locs1 → W p l e R s m args below meth c H1 locs1 cells slots Q (F0 m (pc + 3) ls rest)) : W p l e R s m args below meth c H locs cells slots Q (F0 m pc ls (.int v :: .ref (tr_ad w 24) :: rest)) :=
  tr_pfi (i := 24) (k := 2) C hP hS tyX0 tyX0_ok nmX0 (by decide) rfl rfl hinX0 (by decide) mf_X0_18 rfl rfl (by decide +kernel) (Nat.le_of_ble_eq_true rfl) rfl hdg kk
theorem mf_X0_28 : (RX0, 28, RX2, (TX2 1).2.1, (TX2 1).2.2.1, "TurnRounds") ∈ tr_nl := by decide +kernel
theorem gf_X0_28 {i : Nat} (hn : tr_net i) (C : tr_Cx p s m args c cc nL RX0 tr_X w) (hP : va_P w.1 vwCl (tr_cs tr_X w h) H) (hdg : decode cc pc = .ok (.getfield 28, 3))
    (kk : W p l e R s m args below meth c H locs cells slots Q (F0 m (pc + 3) ls (.int (h.1 i 1) :: rest))) : W p l e R s m args below meth c H locs cells slots Q (F0 m pc ls (.ref (tr_ad w i) :: rest)) :=
  tr_gfN (i := i) (k := 1) C hP (tr_net_lt hn) (tr_net_cx hn _ _ _ _) rfl hinX2 (by decide) mf_X0_28 rfl rfl hdg kk
theorem pf_X0_28 {i : Nat} (hn : tr_net i) {v : Int32} (C : tr_Cx p s m args c cc nL RX0 tr_X w) (hP : va_P w.1 vwCl (tr_cs tr_X w h) H) (hS : va_S (tr_R tr_X w) s.heap H locs) (hdg : decode cc pc = .ok (.putfield 28, 3))
    (kk : ∀ (H1 : Heap) (locs1 : List Loc), va_P w.1 vwCl (tr_cs tr_X w (tr_si h i 1 v)) H1 → va_S (tr_R tr_X w) s.heap H1 locs1 → W p l e R s m args below meth c H1 locs1 cells slots Q (F0 m (pc + 3) ls rest)) : W p l e R s m args below meth c H locs cells slots Q (F0 m pc ls (.int v :: .ref (tr_ad w i) :: rest)) :=
  tr_pfiN (i := i) (k := 1) C hP hS tyX2 tyX2_ok nmX2 (tr_net_lt hn) (tr_net_cx hn _ _ _ _) rfl hinX2 (by decide) mf_X0_28 rfl rfl (by decide +kernel) (Nat.le_of_ble_eq_true rfl) (tr_net_cx hn _ _ _ _) hdg kk
theorem mf_X1_9 : Cond.fieldLink RX1 9 RX1 (TX1 0).2.1 (TX1 0).2.2.1 ∈ tr_T := tr_in 105 (by decide +kernel) rfl
theorem gf_X1_9 (C : tr_Cx p s m args c cc nL RX1 tr_X w) (hP : va_P w.1 vwCl (tr_cs tr_X w h) H) (hdg : decode cc pc = .ok (.getfield 9, 3))
    (kk : W p l e R s m args below meth c H locs cells slots Q (F0 m (pc + 3) ls (.ref (tr_ad w 14) :: rest))) : W p l e R s m args below meth c H locs cells slots Q (F0 m pc ls (.ref (tr_ad w 13) :: rest)) :=
  tr_gf (i := 13) (k := 0) C hP (by decide) rfl rfl hinX1 (by decide) mf_X1_9 rfl rfl hdg kk
theorem mf_X1_15 : Cond.fieldLink RX1 15 RX1 (TX1 1).2.1 (TX1 1).2.2.1 ∈ tr_T := tr_in 106 (by decide +kernel) rfl
theorem gf_X1_15 (C : tr_Cx p s m args c cc nL RX1 tr_X w) (hP : va_P w.1 vwCl (tr_cs tr_X w h) H) (hdg : decode cc pc = .ok (.getfield 15, 3))
    (kk : W p l e R s m args below meth c H locs cells slots Q (F0 m (pc + 3) ls (.ref (tr_ad w 15) :: rest))) : W p l e R s m args below meth c H locs cells slots Q (F0 m pc ls (.ref (tr_ad w 13) :: rest)) :=
  tr_gf (i := 13) (k := 1) C hP (by decide) rfl rfl hinX1 (by decide) mf_X1_15 rfl rfl hdg kk
theorem mf_X1_18 : Cond.fieldLink RX1 18 RX1 (TX1 2).2.1 (TX1 2).2.2.1 ∈ tr_T := tr_in 107 (by decide +kernel) rfl
theorem gf_X1_18 (C : tr_Cx p s m args c cc nL RX1 tr_X w) (hP : va_P w.1 vwCl (tr_cs tr_X w h) H) (hdg : decode cc pc = .ok (.getfield 18, 3))
    (kk : W p l e R s m args below meth c H locs cells slots Q (F0 m (pc + 3) ls (.ref (tr_ad w 16) :: rest))) : W p l e R s m args below meth c H locs cells slots Q (F0 m pc ls (.ref (tr_ad w 13) :: rest)) :=
  tr_gf (i := 13) (k := 2) C hP (by decide) rfl rfl hinX1 (by decide) mf_X1_18 rfl rfl hdg kk
theorem mf_X1_21 : Cond.fieldLink RX1 21 RX1 (TX1 3).2.1 (TX1 3).2.2.1 ∈ tr_T := tr_in 108 (by decide +kernel) rfl
theorem gf_X1_21 (C : tr_Cx p s m args c cc nL RX1 tr_X w) (hP : va_P w.1 vwCl (tr_cs tr_X w h) H) (hdg : decode cc pc = .ok (.getfield 21, 3))
    (kk : W p l e R s m args below meth c H locs cells slots Q (F0 m (pc + 3) ls (.int (h.1 13 3) :: rest))) : W p l e R s m args below meth c H locs cells slots Q (F0 m pc ls (.ref (tr_ad w 13) :: rest)) :=
  tr_gf (i := 13) (k := 3) C hP (by decide) rfl rfl hinX1 (by decide) mf_X1_21 rfl rfl hdg kk
theorem pf_X1_21 {v : Int32} (C : tr_Cx p s m args c cc nL RX1 tr_X w) (hP : va_P w.1 vwCl (tr_cs tr_X w h) H) (hS : va_S (tr_R tr_X w) s.heap H locs) (hdg : decode cc pc = .ok (.putfield 21, 3))
    (kk : ∀ (H1 : Heap) (locs1 : List Loc), va_P w.1 vwCl (tr_cs tr_X w (tr_si h 13 3 v)) H1 → va_S (tr_R tr_X w) s.heap H1 locs1 → W p l e R s m args below meth c H1 locs1 cells slots Q (F0 m (pc + 3) ls rest)) : W p l e R s m args below meth c H locs cells slots Q (F0 m pc ls (.int v :: .ref (tr_ad w 13) :: rest)) :=
  tr_pfi (i := 13) (k := 3) C hP hS tyX1 tyX1_ok nmX1 (by decide) rfl rfl hinX1 (by decide) mf_X1_21 rfl rfl (by decide +kernel) (Nat.le_of_ble_eq_true rfl) rfl hdg kk
theorem mf_X2_9 : Cond.fieldLink RX2 9 RX2 (TX2 0).2.1 (TX2 0).2.2.1 ∈ tr_T := tr_in 72 (by decide +kernel) rfl
theorem gf_X2_9 {i : Nat} (hn : tr_net i) (C : tr_Cx p s m args c cc nL RX2 tr_X w) (hP : va_P w.1 vwCl (tr_cs tr_X w h) H) (hdg : decode cc pc = .ok (.getfield 9, 3))
    (kk : W p l e R s m args below meth c H locs cells slots Q (F0 m (pc + 3) ls (.ref (tr_ad w (i + 1)) :: rest))) : W p l e R s m args below meth c H locs cells slots Q (F0 m pc ls (.ref (tr_ad w i) :: rest)) :=
  tr_gf (i := i) (k := 0) C hP (tr_net_lt hn) (tr_net_cx hn _ _ _ _) rfl hinX2 (by decide) mf_X2_9 rfl rfl hdg kk
theorem mf_X2_15 : Cond.fieldLink RX2 15 RX2 (TX2 1).2.1 (TX2 1).2.2.1 ∈ tr_T := tr_in 73 (by decide +kernel) rfl
theorem gf_X2_15 {i : Nat} (hn : tr_net i) (C : tr_Cx p s m args c cc nL RX2 tr_X w) (hP : va_P w.1 vwCl (tr_cs tr_X w h) H) (hdg : decode cc pc = .ok (.getfield 15, 3))
    (kk : W p l e R s m args below meth c H locs cells slots Q (F0 m (pc + 3) ls (.int (h.1 i 1) :: rest))) : W p l e R s m args below meth c H locs cells slots Q (F0 m pc ls (.ref (tr_ad w i) :: rest)) :=
  tr_gf (i := i) (k := 1) C hP (tr_net_lt hn) (tr_net_cx hn _ _ _ _) rfl hinX2 (by decide) mf_X2_15 rfl rfl hdg kk
theorem pf_X2_15 {i : Nat} (hn : tr_net i) {v : Int32} (C : tr_Cx p s m args c cc nL RX2 tr_X w) (hP : va_P w.1 vwCl (tr_cs tr_X w h) H) (hS : va_S (tr_R tr_X w) s.heap H locs) (hdg : decode cc pc = .ok (.putfield 15, 3))
    (kk : ∀ (H1 : Heap) (locs1 : List Loc), va_P w.1 vwCl (tr_cs tr_X w (tr_si h i 1 v)) H1 → va_S (tr_R tr_X w) s.heap H1 locs1 → W p l e R s m args below meth c H1 locs1 cells slots Q (F0 m (pc + 3) ls rest)) : W p l e R s m args below meth c H locs cells slots Q (F0 m pc ls (.int v :: .ref (tr_ad w i) :: rest)) :=
  tr_pfi (i := i) (k := 1) C hP hS tyX2 tyX2_ok nmX2 (tr_net_lt hn) (tr_net_cx hn _ _ _ _) rfl hinX2 (by decide) mf_X2_15 rfl rfl (by decide +kernel) (Nat.le_of_ble_eq_true rfl) (tr_net_cx hn _ _ _ _) hdg kk
theorem mf_X3_21 : Cond.fieldLink RX3 21 RX3 (TX3 0).2.1 (TX3 0).2.2.1 ∈ tr_T := tr_in 91 (by decide +kernel) rfl
theorem gf_X3_21 (C : tr_Cx p s m args c cc nL RX3 tr_X w) (hP : va_P w.1 vwCl (tr_cs tr_X w h) H) (hdg : decode cc pc = .ok (.getfield 21, 3))
    (kk : W p l e R s m args below meth c H locs cells slots Q (F0 m (pc + 3) ls (.int (h.1 12 0) :: rest))) : W p l e R s m args below meth c H locs cells slots Q (F0 m pc ls (.ref (tr_ad w 12) :: rest)) :=
  tr_gf (i := 12) (k := 0) C hP (by decide) rfl rfl hinX3 (by decide) mf_X3_21 rfl rfl hdg kk
theorem pf_X3_21 {v : Int32} (C : tr_Cx p s m args c cc nL RX3 tr_X w) (hP : va_P w.1 vwCl (tr_cs tr_X w h) H) (hS : va_S (tr_R tr_X w) s.heap H locs) (hdg : decode cc pc = .ok (.putfield 21, 3))
    (kk : ∀ (H1 : Heap) (locs1 : List Loc), va_P w.1 vwCl (tr_cs tr_X w (tr_si h 12 0 v)) H1 → va_S (tr_R tr_X w) s.heap H1 locs1 → W p l e R s m args below meth c H1 locs1 cells slots Q (F0 m (pc + 3) ls rest)) : W p l e R s m args below meth c H locs cells slots Q (F0 m pc ls (.int v :: .ref (tr_ad w 12) :: rest)) :=
  tr_pfi (i := 12) (k := 0) C hP hS tyX3 tyX3_ok nmX3 (by decide) rfl rfl hinX3 (by decide) mf_X3_21 rfl rfl (by decide +kernel) (Nat.le_of_ble_eq_true rfl) rfl hdg kk
theorem mf_X3_32 : Cond.fieldLink RX3 32 RX3 (TX3 1).2.1 (TX3 1).2.2.1 ∈ tr_T := tr_in 92 (by decide +kernel) rfl
theorem gf_X3_32 (C : tr_Cx p s m args c cc nL RX3 tr_X w) (hP : va_P w.1 vwCl (tr_cs tr_X w h) H) (hdg : decode cc pc = .ok (.getfield 32, 3))
    (kk : W p l e R s m args below meth c H locs cells slots Q (F0 m (pc + 3) ls (.int (h.1 12 1) :: rest))) : W p l e R s m args below meth c H locs cells slots Q (F0 m pc ls (.ref (tr_ad w 12) :: rest)) :=
  tr_gf (i := 12) (k := 1) C hP (by decide) rfl rfl hinX3 (by decide) mf_X3_32 rfl rfl hdg kk
theorem pf_X3_32 {v : Int32} (C : tr_Cx p s m args c cc nL RX3 tr_X w) (hP : va_P w.1 vwCl (tr_cs tr_X w h) H) (hS : va_S (tr_R tr_X w) s.heap H locs) (hdg : decode cc pc = .ok (.putfield 32, 3))
    (kk : ∀ (H1 : Heap) (locs1 : List Loc), va_P w.1 vwCl (tr_cs tr_X w (tr_si h 12 1 v)) H1 → va_S (tr_R tr_X w) s.heap H1 locs1 → W p l e R s m args below meth c H1 locs1 cells slots Q (F0 m (pc + 3) ls rest)) : W p l e R s m args below meth c H locs cells slots Q (F0 m pc ls (.int v :: .ref (tr_ad w 12) :: rest)) :=
  tr_pfi (i := 12) (k := 1) C hP hS tyX3 tyX3_ok nmX3 (by decide) rfl rfl hinX3 (by decide) mf_X3_32 rfl rfl (by decide +kernel) (Nat.le_of_ble_eq_true rfl) rfl hdg kk
theorem mf_X4_9 : Cond.fieldLink RX4 9 RX4 (TX4 0).2.1 (TX4 0).2.2.1 ∈ tr_T := tr_in 177 (by decide +kernel) rfl
theorem gf_X4_9 (C : tr_Cx p s m args c cc nL RX4 tr_X w) (hP : va_P w.1 vwCl (tr_cs tr_X w h) H) (hdg : decode cc pc = .ok (.getfield 9, 3))
    (kk : W p l e R s m args below meth c H locs cells slots Q (F0 m (pc + 3) ls (.ref (tr_ad w 28) :: rest))) : W p l e R s m args below meth c H locs cells slots Q (F0 m pc ls (.ref (tr_ad w 27) :: rest)) :=
  tr_gf (i := 27) (k := 0) C hP (by decide) rfl rfl hinX4 (by decide) mf_X4_9 rfl rfl hdg kk
theorem mf_X4_15 : Cond.fieldLink RX4 15 RX4 (TX4 1).2.1 (TX4 1).2.2.1 ∈ tr_T := tr_in 178 (by decide +kernel) rfl
theorem gf_X4_15 (C : tr_Cx p s m args c cc nL RX4 tr_X w) (hP : va_P w.1 vwCl (tr_cs tr_X w h) H) (hdg : decode cc pc = .ok (.getfield 15, 3))
    (kk : W p l e R s m args below meth c H locs cells slots Q (F0 m (pc + 3) ls (.ref (tr_ad w 29) :: rest))) : W p l e R s m args below meth c H locs cells slots Q (F0 m pc ls (.ref (tr_ad w 27) :: rest)) :=
  tr_gf (i := 27) (k := 1) C hP (by decide) rfl rfl hinX4 (by decide) mf_X4_15 rfl rfl hdg kk
theorem mf_X4_18 : Cond.fieldLink RX4 18 RX4 (TX4 2).2.1 (TX4 2).2.2.1 ∈ tr_T := tr_in 179 (by decide +kernel) rfl
theorem gf_X4_18 (C : tr_Cx p s m args c cc nL RX4 tr_X w) (hP : va_P w.1 vwCl (tr_cs tr_X w h) H) (hdg : decode cc pc = .ok (.getfield 18, 3))
    (kk : W p l e R s m args below meth c H locs cells slots Q (F0 m (pc + 3) ls (.ref (tr_ad w 30) :: rest))) : W p l e R s m args below meth c H locs cells slots Q (F0 m pc ls (.ref (tr_ad w 27) :: rest)) :=
  tr_gf (i := 27) (k := 2) C hP (by decide) rfl rfl hinX4 (by decide) mf_X4_18 rfl rfl hdg kk
theorem mf_X4_27 : Cond.fieldLink RX4 27 RX4 (TX4 3).2.1 (TX4 3).2.2.1 ∈ tr_T := tr_in 180 (by decide +kernel) rfl
theorem gf_X4_27 (C : tr_Cx p s m args c cc nL RX4 tr_X w) (hP : va_P w.1 vwCl (tr_cs tr_X w h) H) (hdg : decode cc pc = .ok (.getfield 27, 3))
    (kk : W p l e R s m args below meth c H locs cells slots Q (F0 m (pc + 3) ls (.int (h.1 27 3) :: rest))) : W p l e R s m args below meth c H locs cells slots Q (F0 m pc ls (.ref (tr_ad w 27) :: rest)) :=
  tr_gf (i := 27) (k := 3) C hP (by decide) rfl rfl hinX4 (by decide) mf_X4_27 rfl rfl hdg kk
theorem pf_X4_27 {v : Int32} (C : tr_Cx p s m args c cc nL RX4 tr_X w) (hP : va_P w.1 vwCl (tr_cs tr_X w h) H) (hS : va_S (tr_R tr_X w) s.heap H locs) (hdg : decode cc pc = .ok (.putfield 27, 3))
    (kk : ∀ (H1 : Heap) (locs1 : List Loc), va_P w.1 vwCl (tr_cs tr_X w (tr_si h 27 3 v)) H1 → va_S (tr_R tr_X w) s.heap H1 locs1 → W p l e R s m args below meth c H1 locs1 cells slots Q (F0 m (pc + 3) ls rest)) : W p l e R s m args below meth c H locs cells slots Q (F0 m pc ls (.int v :: .ref (tr_ad w 27) :: rest)) :=
  tr_pfi (i := 27) (k := 3) C hP hS tyX4 tyX4_ok nmX4 (by decide) rfl rfl hinX4 (by decide) mf_X4_27 rfl rfl (by decide +kernel) (Nat.le_of_ble_eq_true rfl) rfl hdg kk
theorem mf_X4_31 : (RX4, 31, RX2, (TX2 1).2.1, (TX2 1).2.2.1, "TurnRounds") ∈ tr_nl := by decide +kernel
theorem gf_X4_31 {i : Nat} (hn : tr_net i) (C : tr_Cx p s m args c cc nL RX4 tr_X w) (hP : va_P w.1 vwCl (tr_cs tr_X w h) H) (hdg : decode cc pc = .ok (.getfield 31, 3))
    (kk : W p l e R s m args below meth c H locs cells slots Q (F0 m (pc + 3) ls (.int (h.1 i 1) :: rest))) : W p l e R s m args below meth c H locs cells slots Q (F0 m pc ls (.ref (tr_ad w i) :: rest)) :=
  tr_gfN (i := i) (k := 1) C hP (tr_net_lt hn) (tr_net_cx hn _ _ _ _) rfl hinX2 (by decide) mf_X4_31 rfl rfl hdg kk
theorem pf_X4_31 {i : Nat} (hn : tr_net i) {v : Int32} (C : tr_Cx p s m args c cc nL RX4 tr_X w) (hP : va_P w.1 vwCl (tr_cs tr_X w h) H) (hS : va_S (tr_R tr_X w) s.heap H locs) (hdg : decode cc pc = .ok (.putfield 31, 3))
    (kk : ∀ (H1 : Heap) (locs1 : List Loc), va_P w.1 vwCl (tr_cs tr_X w (tr_si h i 1 v)) H1 → va_S (tr_R tr_X w) s.heap H1 locs1 → W p l e R s m args below meth c H1 locs1 cells slots Q (F0 m (pc + 3) ls rest)) : W p l e R s m args below meth c H locs cells slots Q (F0 m pc ls (.int v :: .ref (tr_ad w i) :: rest)) :=
  tr_pfiN (i := i) (k := 1) C hP hS tyX2 tyX2_ok nmX2 (tr_net_lt hn) (tr_net_cx hn _ _ _ _) rfl hinX2 (by decide) mf_X4_31 rfl rfl (by decide +kernel) (Nat.le_of_ble_eq_true rfl) (tr_net_cx hn _ _ _ _) hdg kk
theorem mf_X5_9 : Cond.fieldLink RX5 9 RX5 (TX5 0).2.1 (TX5 0).2.2.1 ∈ tr_T := tr_in 125 (by decide +kernel) rfl
theorem gf_X5_9 (C : tr_Cx p s m args c cc nL RX5 tr_X w) (hP : va_P w.1 vwCl (tr_cs tr_X w h) H) (hdg : decode cc pc = .ok (.getfield 9, 3))
    (kk : W p l e R s m args below meth c H locs cells slots Q (F0 m (pc + 3) ls (.ref (tr_ad w 18) :: rest))) : W p l e R s m args below meth c H locs cells slots Q (F0 m pc ls (.ref (tr_ad w 17) :: rest)) :=
  tr_gf (i := 17) (k := 0) C hP (by decide) rfl rfl hinX5 (by decide) mf_X5_9 rfl rfl hdg kk
theorem mf_X5_15 : Cond.fieldLink RX5 15 RX5 (TX5 1).2.1 (TX5 1).2.2.1 ∈ tr_T := tr_in 126 (by decide +kernel) rfl
theorem gf_X5_15 (C : tr_Cx p s m args c cc nL RX5 tr_X w) (hP : va_P w.1 vwCl (tr_cs tr_X w h) H) (hdg : decode cc pc = .ok (.getfield 15, 3))
    (kk : W p l e R s m args below meth c H locs cells slots Q (F0 m (pc + 3) ls (.ref (tr_ad w 19) :: rest))) : W p l e R s m args below meth c H locs cells slots Q (F0 m pc ls (.ref (tr_ad w 17) :: rest)) :=
  tr_gf (i := 17) (k := 1) C hP (by decide) rfl rfl hinX5 (by decide) mf_X5_15 rfl rfl hdg kk
theorem mf_X5_18 : Cond.fieldLink RX5 18 RX5 (TX5 2).2.1 (TX5 2).2.2.1 ∈ tr_T := tr_in 127 (by decide +kernel) rfl
theorem gf_X5_18 (C : tr_Cx p s m args c cc nL RX5 tr_X w) (hP : va_P w.1 vwCl (tr_cs tr_X w h) H) (hdg : decode cc pc = .ok (.getfield 18, 3))
    (kk : W p l e R s m args below meth c H locs cells slots Q (F0 m (pc + 3) ls (.ref (tr_ad w 20) :: rest))) : W p l e R s m args below meth c H locs cells slots Q (F0 m pc ls (.ref (tr_ad w 17) :: rest)) :=
  tr_gf (i := 17) (k := 2) C hP (by decide) rfl rfl hinX5 (by decide) mf_X5_18 rfl rfl hdg kk
theorem mf_X5_21 : Cond.fieldLink RX5 21 RX5 (TX5 3).2.1 (TX5 3).2.2.1 ∈ tr_T := tr_in 128 (by decide +kernel) rfl
theorem gf_X5_21 (C : tr_Cx p s m args c cc nL RX5 tr_X w) (hP : va_P w.1 vwCl (tr_cs tr_X w h) H) (hdg : decode cc pc = .ok (.getfield 21, 3))
    (kk : W p l e R s m args below meth c H locs cells slots Q (F0 m (pc + 3) ls (.int (h.1 17 3) :: rest))) : W p l e R s m args below meth c H locs cells slots Q (F0 m pc ls (.ref (tr_ad w 17) :: rest)) :=
  tr_gf (i := 17) (k := 3) C hP (by decide) rfl rfl hinX5 (by decide) mf_X5_21 rfl rfl hdg kk
theorem pf_X5_21 {v : Int32} (C : tr_Cx p s m args c cc nL RX5 tr_X w) (hP : va_P w.1 vwCl (tr_cs tr_X w h) H) (hS : va_S (tr_R tr_X w) s.heap H locs) (hdg : decode cc pc = .ok (.putfield 21, 3))
    (kk : ∀ (H1 : Heap) (locs1 : List Loc), va_P w.1 vwCl (tr_cs tr_X w (tr_si h 17 3 v)) H1 → va_S (tr_R tr_X w) s.heap H1 locs1 → W p l e R s m args below meth c H1 locs1 cells slots Q (F0 m (pc + 3) ls rest)) : W p l e R s m args below meth c H locs cells slots Q (F0 m pc ls (.int v :: .ref (tr_ad w 17) :: rest)) :=
  tr_pfi (i := 17) (k := 3) C hP hS tyX5 tyX5_ok nmX5 (by decide) rfl rfl hinX5 (by decide) mf_X5_21 rfl rfl (by decide +kernel) (Nat.le_of_ble_eq_true rfl) rfl hdg kk
theorem mf_X6_9 : Cond.fieldLink RX6 9 RX6 (TX6 0).2.1 (TX6 0).2.2.1 ∈ tr_T := tr_in 145 (by decide +kernel) rfl
theorem gf_X6_9 (C : tr_Cx p s m args c cc nL RX6 tr_X w) (hP : va_P w.1 vwCl (tr_cs tr_X w h) H) (hdg : decode cc pc = .ok (.getfield 9, 3))
    (kk : W p l e R s m args below meth c H locs cells slots Q (F0 m (pc + 3) ls (.ref (tr_ad w 22) :: rest))) : W p l e R s m args below meth c H locs cells slots Q (F0 m pc ls (.ref (tr_ad w 21) :: rest)) :=
  tr_gf (i := 21) (k := 0) C hP (by decide) rfl rfl hinX6 (by decide) mf_X6_9 rfl rfl hdg kk
theorem mf_X6_15 : Cond.fieldLink RX6 15 RX6 (TX6 1).2.1 (TX6 1).2.2.1 ∈ tr_T := tr_in 146 (by decide +kernel) rfl
theorem gf_X6_15 (C : tr_Cx p s m args c cc nL RX6 tr_X w) (hP : va_P w.1 vwCl (tr_cs tr_X w h) H) (hdg : decode cc pc = .ok (.getfield 15, 3))
    (kk : W p l e R s m args below meth c H locs cells slots Q (F0 m (pc + 3) ls (.ref (tr_ad w 23) :: rest))) : W p l e R s m args below meth c H locs cells slots Q (F0 m pc ls (.ref (tr_ad w 21) :: rest)) :=
  tr_gf (i := 21) (k := 1) C hP (by decide) rfl rfl hinX6 (by decide) mf_X6_15 rfl rfl hdg kk
theorem mf_X6_22 : (RX6, 22, RX2, (TX2 1).2.1, (TX2 1).2.2.1, "TurnRounds") ∈ tr_nl := by decide +kernel
theorem gf_X6_22 {i : Nat} (hn : tr_net i) (C : tr_Cx p s m args c cc nL RX6 tr_X w) (hP : va_P w.1 vwCl (tr_cs tr_X w h) H) (hdg : decode cc pc = .ok (.getfield 22, 3))
    (kk : W p l e R s m args below meth c H locs cells slots Q (F0 m (pc + 3) ls (.int (h.1 i 1) :: rest))) : W p l e R s m args below meth c H locs cells slots Q (F0 m pc ls (.ref (tr_ad w i) :: rest)) :=
  tr_gfN (i := i) (k := 1) C hP (tr_net_lt hn) (tr_net_cx hn _ _ _ _) rfl hinX2 (by decide) mf_X6_22 rfl rfl hdg kk
theorem pf_X6_22 {i : Nat} (hn : tr_net i) {v : Int32} (C : tr_Cx p s m args c cc nL RX6 tr_X w) (hP : va_P w.1 vwCl (tr_cs tr_X w h) H) (hS : va_S (tr_R tr_X w) s.heap H locs) (hdg : decode cc pc = .ok (.putfield 22, 3))
    (kk : ∀ (H1 : Heap) (locs1 : List Loc), va_P w.1 vwCl (tr_cs tr_X w (tr_si h i 1 v)) H1 → va_S (tr_R tr_X w) s.heap H1 locs1 → W p l e R s m args below meth c H1 locs1 cells slots Q (F0 m (pc + 3) ls rest)) : W p l e R s m args below meth c H locs cells slots Q (F0 m pc ls (.int v :: .ref (tr_ad w i) :: rest)) :=
  tr_pfiN (i := i) (k := 1) C hP hS tyX2 tyX2_ok nmX2 (tr_net_lt hn) (tr_net_cx hn _ _ _ _) rfl hinX2 (by decide) mf_X6_22 rfl rfl (by decide +kernel) (Nat.le_of_ble_eq_true rfl) (tr_net_cx hn _ _ _ _) hdg kk
theorem mf_X6_51 : Cond.fieldLink RX6 51 RX6 (TX6 2).2.1 (TX6 2).2.2.1 ∈ tr_T := tr_in 147 (by decide +kernel) rfl
theorem gf_X6_51 (C : tr_Cx p s m args c cc nL RX6 tr_X w) (hP : va_P w.1 vwCl (tr_cs tr_X w h) H) (hdg : decode cc pc = .ok (.getfield 51, 3))
    (kk : W p l e R s m args below meth c H locs cells slots Q (F0 m (pc + 3) ls (.int (h.1 21 2) :: rest))) : W p l e R s m args below meth c H locs cells slots Q (F0 m pc ls (.ref (tr_ad w 21) :: rest)) :=
  tr_gf (i := 21) (k := 2) C hP (by decide) rfl rfl hinX6 (by decide) mf_X6_51 rfl rfl hdg kk
theorem pf_X6_51 {v : Int32} (C : tr_Cx p s m args c cc nL RX6 tr_X w) (hP : va_P w.1 vwCl (tr_cs tr_X w h) H) (hS : va_S (tr_R tr_X w) s.heap H locs) (hdg : decode cc pc = .ok (.putfield 51, 3))
    (kk : ∀ (H1 : Heap) (locs1 : List Loc), va_P w.1 vwCl (tr_cs tr_X w (tr_si h 21 2 v)) H1 → va_S (tr_R tr_X w) s.heap H1 locs1 → W p l e R s m args below meth c H1 locs1 cells slots Q (F0 m (pc + 3) ls rest)) : W p l e R s m args below meth c H locs cells slots Q (F0 m pc ls (.int v :: .ref (tr_ad w 21) :: rest)) :=
  tr_pfi (i := 21) (k := 2) C hP hS tyX6 tyX6_ok nmX6 (by decide) rfl rfl hinX6 (by decide) mf_X6_51 rfl rfl (by decide +kernel) (Nat.le_of_ble_eq_true rfl) rfl hdg kk
theorem mf_X7_9 : Cond.fieldLink RX7 9 RX7 (TX7 0).2.1 (TX7 0).2.2.1 ∈ tr_T := tr_in 191 (by decide +kernel) rfl
theorem gf_X7_9 (C : tr_Cx p s m args c cc nL RX7 tr_X w) (hP : va_P w.1 vwCl (tr_cs tr_X w h) H) (hdg : decode cc pc = .ok (.getfield 9, 3))
    (kk : W p l e R s m args below meth c H locs cells slots Q (F0 m (pc + 3) ls (.ref (tr_ad w 1) :: rest))) : W p l e R s m args below meth c H locs cells slots Q (F0 m pc ls (.ref (tr_ad w 0) :: rest)) :=
  tr_gf (i := 0) (k := 0) C hP (by decide) rfl rfl hinX7 (by decide) mf_X7_9 rfl rfl hdg kk
theorem mf_X7_16 : Cond.fieldLink RX7 16 RX7 (TX7 1).2.1 (TX7 1).2.2.1 ∈ tr_T := tr_in 192 (by decide +kernel) rfl
theorem gf_X7_16 (C : tr_Cx p s m args c cc nL RX7 tr_X w) (hP : va_P w.1 vwCl (tr_cs tr_X w h) H) (hdg : decode cc pc = .ok (.getfield 16, 3))
    (kk : W p l e R s m args below meth c H locs cells slots Q (F0 m (pc + 3) ls (.ref (tr_ad w 2) :: rest))) : W p l e R s m args below meth c H locs cells slots Q (F0 m pc ls (.ref (tr_ad w 0) :: rest)) :=
  tr_gf (i := 0) (k := 1) C hP (by decide) rfl rfl hinX7 (by decide) mf_X7_16 rfl rfl hdg kk
theorem mf_X7_20 : Cond.fieldLink RX7 20 RX7 (TX7 2).2.1 (TX7 2).2.2.1 ∈ tr_T := tr_in 193 (by decide +kernel) rfl
theorem gf_X7_20 (C : tr_Cx p s m args c cc nL RX7 tr_X w) (hP : va_P w.1 vwCl (tr_cs tr_X w h) H) (hdg : decode cc pc = .ok (.getfield 20, 3))
    (kk : W p l e R s m args below meth c H locs cells slots Q (F0 m (pc + 3) ls (.ref (tr_ad w 4) :: rest))) : W p l e R s m args below meth c H locs cells slots Q (F0 m pc ls (.ref (tr_ad w 0) :: rest)) :=
  tr_gf (i := 0) (k := 2) C hP (by decide) rfl rfl hinX7 (by decide) mf_X7_20 rfl rfl hdg kk
theorem mf_X7_23 : Cond.fieldLink RX7 23 RX7 (TX7 3).2.1 (TX7 3).2.2.1 ∈ tr_T := tr_in 194 (by decide +kernel) rfl
theorem gf_X7_23 (C : tr_Cx p s m args c cc nL RX7 tr_X w) (hP : va_P w.1 vwCl (tr_cs tr_X w h) H) (hdg : decode cc pc = .ok (.getfield 23, 3))
    (kk : W p l e R s m args below meth c H locs cells slots Q (F0 m (pc + 3) ls (.ref (tr_ad w 10) :: rest))) : W p l e R s m args below meth c H locs cells slots Q (F0 m pc ls (.ref (tr_ad w 0) :: rest)) :=
  tr_gf (i := 0) (k := 3) C hP (by decide) rfl rfl hinX7 (by decide) mf_X7_23 rfl rfl hdg kk
theorem mf_X7_27 : Cond.fieldLink RX7 27 RX7 (TX7 4).2.1 (TX7 4).2.2.1 ∈ tr_T := tr_in 195 (by decide +kernel) rfl
theorem gf_X7_27 (C : tr_Cx p s m args c cc nL RX7 tr_X w) (hP : va_P w.1 vwCl (tr_cs tr_X w h) H) (hdg : decode cc pc = .ok (.getfield 27, 3))
    (kk : W p l e R s m args below meth c H locs cells slots Q (F0 m (pc + 3) ls (.ref (tr_ad w 11) :: rest))) : W p l e R s m args below meth c H locs cells slots Q (F0 m pc ls (.ref (tr_ad w 0) :: rest)) :=
  tr_gf (i := 0) (k := 4) C hP (by decide) rfl rfl hinX7 (by decide) mf_X7_27 rfl rfl hdg kk
theorem mf_X7_34 : Cond.fieldLink RX7 34 RX7 (TX7 5).2.1 (TX7 5).2.2.1 ∈ tr_T := tr_in 196 (by decide +kernel) rfl
theorem gf_X7_34 (C : tr_Cx p s m args c cc nL RX7 tr_X w) (hP : va_P w.1 vwCl (tr_cs tr_X w h) H) (hdg : decode cc pc = .ok (.getfield 34, 3))
    (kk : W p l e R s m args below meth c H locs cells slots Q (F0 m (pc + 3) ls (.ref (tr_ad w 12) :: rest))) : W p l e R s m args below meth c H locs cells slots Q (F0 m pc ls (.ref (tr_ad w 0) :: rest)) :=
  tr_gf (i := 0) (k := 5) C hP (by decide) rfl rfl hinX7 (by decide) mf_X7_34 rfl rfl hdg kk
theorem mf_X7_41 : Cond.fieldLink RX7 41 RX7 (TX7 6).2.1 (TX7 6).2.2.1 ∈ tr_T := tr_in 197 (by decide +kernel) rfl
theorem gf_X7_41 (C : tr_Cx p s m args c cc nL RX7 tr_X w) (hP : va_P w.1 vwCl (tr_cs tr_X w h) H) (hdg : decode cc pc = .ok (.getfield 41, 3))
    (kk : W p l e R s m args below meth c H locs cells slots Q (F0 m (pc + 3) ls (.ref (tr_ad w 13) :: rest))) : W p l e R s m args below meth c H locs cells slots Q (F0 m pc ls (.ref (tr_ad w 0) :: rest)) :=
  tr_gf (i := 0) (k := 6) C hP (by decide) rfl rfl hinX7 (by decide) mf_X7_41 rfl rfl hdg kk
theorem mf_X7_48 : Cond.fieldLink RX7 48 RX7 (TX7 7).2.1 (TX7 7).2.2.1 ∈ tr_T := tr_in 198 (by decide +kernel) rfl
theorem gf_X7_48 (C : tr_Cx p s m args c cc nL RX7 tr_X w) (hP : va_P w.1 vwCl (tr_cs tr_X w h) H) (hdg : decode cc pc = .ok (.getfield 48, 3))
    (kk : W p l e R s m args below meth c H locs cells slots Q (F0 m (pc + 3) ls (.ref (tr_ad w 17) :: rest))) : W p l e R s m args below meth c H locs cells slots Q (F0 m pc ls (.ref (tr_ad w 0) :: rest)) :=
  tr_gf (i := 0) (k := 7) C hP (by decide) rfl rfl hinX7 (by decide) mf_X7_48 rfl rfl hdg kk
theorem mf_X7_55 : Cond.fieldLink RX7 55 RX7 (TX7 8).2.1 (TX7 8).2.2.1 ∈ tr_T := tr_in 199 (by decide +kernel) rfl
theorem gf_X7_55 (C : tr_Cx p s m args c cc nL RX7 tr_X w) (hP : va_P w.1 vwCl (tr_cs tr_X w h) H) (hdg : decode cc pc = .ok (.getfield 55, 3))
    (kk : W p l e R s m args below meth c H locs cells slots Q (F0 m (pc + 3) ls (.ref (tr_ad w 21) :: rest))) : W p l e R s m args below meth c H locs cells slots Q (F0 m pc ls (.ref (tr_ad w 0) :: rest)) :=
  tr_gf (i := 0) (k := 8) C hP (by decide) rfl rfl hinX7 (by decide) mf_X7_55 rfl rfl hdg kk
theorem mf_X7_62 : Cond.fieldLink RX7 62 RX7 (TX7 9).2.1 (TX7 9).2.2.1 ∈ tr_T := tr_in 200 (by decide +kernel) rfl
theorem gf_X7_62 (C : tr_Cx p s m args c cc nL RX7 tr_X w) (hP : va_P w.1 vwCl (tr_cs tr_X w h) H) (hdg : decode cc pc = .ok (.getfield 62, 3))
    (kk : W p l e R s m args below meth c H locs cells slots Q (F0 m (pc + 3) ls (.ref (tr_ad w 24) :: rest))) : W p l e R s m args below meth c H locs cells slots Q (F0 m pc ls (.ref (tr_ad w 0) :: rest)) :=
  tr_gf (i := 0) (k := 9) C hP (by decide) rfl rfl hinX7 (by decide) mf_X7_62 rfl rfl hdg kk
theorem mf_X7_69 : Cond.fieldLink RX7 69 RX7 (TX7 10).2.1 (TX7 10).2.2.1 ∈ tr_T := tr_in 201 (by decide +kernel) rfl
theorem gf_X7_69 (C : tr_Cx p s m args c cc nL RX7 tr_X w) (hP : va_P w.1 vwCl (tr_cs tr_X w h) H) (hdg : decode cc pc = .ok (.getfield 69, 3))
    (kk : W p l e R s m args below meth c H locs cells slots Q (F0 m (pc + 3) ls (.ref (tr_ad w 27) :: rest))) : W p l e R s m args below meth c H locs cells slots Q (F0 m pc ls (.ref (tr_ad w 0) :: rest)) :=
  tr_gf (i := 0) (k := 10) C hP (by decide) rfl rfl hinX7 (by decide) mf_X7_69 rfl rfl hdg kk
theorem mf_X7_73 : Cond.fieldLink RX7 73 RX7 (TX7 11).2.1 (TX7 11).2.2.1 ∈ tr_T := tr_in 202 (by decide +kernel) rfl
theorem gf_X7_73 (C : tr_Cx p s m args c cc nL RX7 tr_X w) (hP : va_P w.1 vwCl (tr_cs tr_X w h) H) (hdg : decode cc pc = .ok (.getfield 73, 3))
    (kk : W p l e R s m args below meth c H locs cells slots Q (F0 m (pc + 3) ls (.int (h.1 0 11) :: rest))) : W p l e R s m args below meth c H locs cells slots Q (F0 m pc ls (.ref (tr_ad w 0) :: rest)) :=
  tr_gf (i := 0) (k := 11) C hP (by decide) rfl rfl hinX7 (by decide) mf_X7_73 rfl rfl hdg kk
theorem pf_X7_73 {v : Int32} (C : tr_Cx p s m args c cc nL RX7 tr_X w) (hP : va_P w.1 vwCl (tr_cs tr_X w h) H) (hS : va_S (tr_R tr_X w) s.heap H locs) (hdg : decode cc pc = .ok (.putfield 73, 3))
    (kk : ∀ (H1 : Heap) (locs1 : List Loc), va_P w.1 vwCl (tr_cs tr_X w (tr_si h 0 11 v)) H1 → va_S (tr_R tr_X w) s.heap H1 locs1 → W p l e R s m args below meth c H1 locs1 cells slots Q (F0 m (pc + 3) ls rest)) : W p l e R s m args below meth c H locs cells slots Q (F0 m pc ls (.int v :: .ref (tr_ad w 0) :: rest)) :=
  tr_pfi (i := 0) (k := 11) C hP hS tyX7 tyX7_ok nmX7 (by decide) rfl rfl hinX7 (by decide) mf_X7_73 rfl rfl (by decide +kernel) (Nat.le_of_ble_eq_true rfl) rfl hdg kk
theorem mf_X7_92 : (RX7, 92, RX2, (TX2 1).2.1, (TX2 1).2.2.1, "TurnRounds") ∈ tr_nl := by decide +kernel
theorem gf_X7_92 {i : Nat} (hn : tr_net i) (C : tr_Cx p s m args c cc nL RX7 tr_X w) (hP : va_P w.1 vwCl (tr_cs tr_X w h) H) (hdg : decode cc pc = .ok (.getfield 92, 3))
    (kk : W p l e R s m args below meth c H locs cells slots Q (F0 m (pc + 3) ls (.int (h.1 i 1) :: rest))) : W p l e R s m args below meth c H locs cells slots Q (F0 m pc ls (.ref (tr_ad w i) :: rest)) :=
  tr_gfN (i := i) (k := 1) C hP (tr_net_lt hn) (tr_net_cx hn _ _ _ _) rfl hinX2 (by decide) mf_X7_92 rfl rfl hdg kk
theorem pf_X7_92 {i : Nat} (hn : tr_net i) {v : Int32} (C : tr_Cx p s m args c cc nL RX7 tr_X w) (hP : va_P w.1 vwCl (tr_cs tr_X w h) H) (hS : va_S (tr_R tr_X w) s.heap H locs) (hdg : decode cc pc = .ok (.putfield 92, 3))
    (kk : ∀ (H1 : Heap) (locs1 : List Loc), va_P w.1 vwCl (tr_cs tr_X w (tr_si h i 1 v)) H1 → va_S (tr_R tr_X w) s.heap H1 locs1 → W p l e R s m args below meth c H1 locs1 cells slots Q (F0 m (pc + 3) ls rest)) : W p l e R s m args below meth c H locs cells slots Q (F0 m pc ls (.int v :: .ref (tr_ad w i) :: rest)) :=
  tr_pfiN (i := i) (k := 1) C hP hS tyX2 tyX2_ok nmX2 (tr_net_lt hn) (tr_net_cx hn _ _ _ _) rfl hinX2 (by decide) mf_X7_92 rfl rfl (by decide +kernel) (Nat.le_of_ble_eq_true rfl) (tr_net_cx hn _ _ _ _) hdg kk
theorem mf_X7_98 : (RX7, 98, RX4, (TX4 3).2.1, (TX4 3).2.2.1, "TurnRounds") ∈ tr_nl := by decide +kernel
theorem gf_X7_98 (C : tr_Cx p s m args c cc nL RX7 tr_X w) (hP : va_P w.1 vwCl (tr_cs tr_X w h) H) (hdg : decode cc pc = .ok (.getfield 98, 3))
    (kk : W p l e R s m args below meth c H locs cells slots Q (F0 m (pc + 3) ls (.int (h.1 27 3) :: rest))) : W p l e R s m args below meth c H locs cells slots Q (F0 m pc ls (.ref (tr_ad w 27) :: rest)) :=
  tr_gfN (i := 27) (k := 3) C hP (by decide) rfl rfl hinX4 (by decide) mf_X7_98 rfl rfl hdg kk
theorem pf_X7_98 {v : Int32} (C : tr_Cx p s m args c cc nL RX7 tr_X w) (hP : va_P w.1 vwCl (tr_cs tr_X w h) H) (hS : va_S (tr_R tr_X w) s.heap H locs) (hdg : decode cc pc = .ok (.putfield 98, 3))
    (kk : ∀ (H1 : Heap) (locs1 : List Loc), va_P w.1 vwCl (tr_cs tr_X w (tr_si h 27 3 v)) H1 → va_S (tr_R tr_X w) s.heap H1 locs1 → W p l e R s m args below meth c H1 locs1 cells slots Q (F0 m (pc + 3) ls rest)) : W p l e R s m args below meth c H locs cells slots Q (F0 m pc ls (.int v :: .ref (tr_ad w 27) :: rest)) :=
  tr_pfiN (i := 27) (k := 3) C hP hS tyX4 tyX4_ok nmX4 (by decide) rfl rfl hinX4 (by decide) mf_X7_98 rfl rfl (by decide +kernel) (Nat.le_of_ble_eq_true rfl) rfl hdg kk
theorem mf_X7_108 : (RX7, 108, RX1, (TX1 3).2.1, (TX1 3).2.2.1, "TurnRounds") ∈ tr_nl := by decide +kernel
theorem gf_X7_108 (C : tr_Cx p s m args c cc nL RX7 tr_X w) (hP : va_P w.1 vwCl (tr_cs tr_X w h) H) (hdg : decode cc pc = .ok (.getfield 108, 3))
    (kk : W p l e R s m args below meth c H locs cells slots Q (F0 m (pc + 3) ls (.int (h.1 13 3) :: rest))) : W p l e R s m args below meth c H locs cells slots Q (F0 m pc ls (.ref (tr_ad w 13) :: rest)) :=
  tr_gfN (i := 13) (k := 3) C hP (by decide) rfl rfl hinX1 (by decide) mf_X7_108 rfl rfl hdg kk
theorem pf_X7_108 {v : Int32} (C : tr_Cx p s m args c cc nL RX7 tr_X w) (hP : va_P w.1 vwCl (tr_cs tr_X w h) H) (hS : va_S (tr_R tr_X w) s.heap H locs) (hdg : decode cc pc = .ok (.putfield 108, 3))
    (kk : ∀ (H1 : Heap) (locs1 : List Loc), va_P w.1 vwCl (tr_cs tr_X w (tr_si h 13 3 v)) H1 → va_S (tr_R tr_X w) s.heap H1 locs1 → W p l e R s m args below meth c H1 locs1 cells slots Q (F0 m (pc + 3) ls rest)) : W p l e R s m args below meth c H locs cells slots Q (F0 m pc ls (.int v :: .ref (tr_ad w 13) :: rest)) :=
  tr_pfiN (i := 13) (k := 3) C hP hS tyX1 tyX1_ok nmX1 (by decide) rfl rfl hinX1 (by decide) mf_X7_108 rfl rfl (by decide +kernel) (Nat.le_of_ble_eq_true rfl) rfl hdg kk
theorem mf_X7_111 : (RX7, 111, RX5, (TX5 3).2.1, (TX5 3).2.2.1, "TurnRounds") ∈ tr_nl := by decide +kernel
theorem gf_X7_111 (C : tr_Cx p s m args c cc nL RX7 tr_X w) (hP : va_P w.1 vwCl (tr_cs tr_X w h) H) (hdg : decode cc pc = .ok (.getfield 111, 3))
    (kk : W p l e R s m args below meth c H locs cells slots Q (F0 m (pc + 3) ls (.int (h.1 17 3) :: rest))) : W p l e R s m args below meth c H locs cells slots Q (F0 m pc ls (.ref (tr_ad w 17) :: rest)) :=
  tr_gfN (i := 17) (k := 3) C hP (by decide) rfl rfl hinX5 (by decide) mf_X7_111 rfl rfl hdg kk
theorem pf_X7_111 {v : Int32} (C : tr_Cx p s m args c cc nL RX7 tr_X w) (hP : va_P w.1 vwCl (tr_cs tr_X w h) H) (hS : va_S (tr_R tr_X w) s.heap H locs) (hdg : decode cc pc = .ok (.putfield 111, 3))
    (kk : ∀ (H1 : Heap) (locs1 : List Loc), va_P w.1 vwCl (tr_cs tr_X w (tr_si h 17 3 v)) H1 → va_S (tr_R tr_X w) s.heap H1 locs1 → W p l e R s m args below meth c H1 locs1 cells slots Q (F0 m (pc + 3) ls rest)) : W p l e R s m args below meth c H locs cells slots Q (F0 m pc ls (.int v :: .ref (tr_ad w 17) :: rest)) :=
  tr_pfiN (i := 17) (k := 3) C hP hS tyX5 tyX5_ok nmX5 (by decide) rfl rfl hinX5 (by decide) mf_X7_111 rfl rfl (by decide +kernel) (Nat.le_of_ble_eq_true rfl) rfl hdg kk
theorem mf_X7_197 : Cond.fieldLink RX7 197 RX7 (TX7 12).2.1 (TX7 12).2.2.1 ∈ tr_T := tr_in 203 (by decide +kernel) rfl
theorem gf_X7_197 (C : tr_Cx p s m args c cc nL RX7 tr_X w) (hP : va_P w.1 vwCl (tr_cs tr_X w h) H) (hdg : decode cc pc = .ok (.getfield 197, 3))
    (kk : W p l e R s m args below meth c H locs cells slots Q (F0 m (pc + 3) ls (.long (h.2 0 12) :: rest))) : W p l e R s m args below meth c H locs cells slots Q (F0 m pc ls (.ref (tr_ad w 0) :: rest)) :=
  tr_gf (i := 0) (k := 12) C hP (by decide) rfl rfl hinX7 (by decide) mf_X7_197 rfl rfl hdg kk
theorem pf_X7_197 {v : Int64} (C : tr_Cx p s m args c cc nL RX7 tr_X w) (hP : va_P w.1 vwCl (tr_cs tr_X w h) H) (hS : va_S (tr_R tr_X w) s.heap H locs) (hdg : decode cc pc = .ok (.putfield 197, 3))
    (kk : ∀ (H1 : Heap) (locs1 : List Loc), va_P w.1 vwCl (tr_cs tr_X w (tr_sl h 0 12 v)) H1 → va_S (tr_R tr_X w) s.heap H1 locs1 → W p l e R s m args below meth c H1 locs1 cells slots Q (F0 m (pc + 3) ls rest)) : W p l e R s m args below meth c H locs cells slots Q (F0 m pc ls (.long v :: .ref (tr_ad w 0) :: rest)) :=
  tr_pfl (i := 0) (k := 12) C hP hS tyX7 tyX7_ok nmX7 (by decide) rfl rfl hinX7 (by decide) mf_X7_197 rfl rfl (by decide +kernel) (Nat.le_of_ble_eq_true rfl) rfl hdg kk
theorem mf_X8_7 : Cond.fieldLink RX8 7 RX8 (TX8 1).2.1 (TX8 1).2.2.1 ∈ tr_T := tr_in 579 (by decide +kernel) rfl
theorem gf_X8_7 (C : tr_Cx p s m args c cc nL RX8 tr_M w) (hP : va_P w.1 vwCl (tr_cs tr_M w h) H) (hdg : decode cc pc = .ok (.getfield 7, 3))
    (kk : W p l e R s m args below meth c H locs cells slots Q (F0 m (pc + 3) ls (.ref (tr_ad w 1) :: rest))) : W p l e R s m args below meth c H locs cells slots Q (F0 m pc ls (.ref (tr_ad w 0) :: rest)) :=
  tr_gf (i := 0) (k := 1) C hP (by decide) rfl rfl hinX8 (by decide) mf_X8_7 rfl rfl hdg kk
theorem mf_X8_13 : Cond.fieldLink RX8 13 RX8 (TX8 5).2.1 (TX8 5).2.2.1 ∈ tr_T := tr_in 583 (by decide +kernel) rfl
theorem gf_X8_13 (C : tr_Cx p s m args c cc nL RX8 tr_M w) (hP : va_P w.1 vwCl (tr_cs tr_M w h) H) (hdg : decode cc pc = .ok (.getfield 13, 3))
    (kk : W p l e R s m args below meth c H locs cells slots Q (F0 m (pc + 3) ls (.ref (tr_ad w 2) :: rest))) : W p l e R s m args below meth c H locs cells slots Q (F0 m pc ls (.ref (tr_ad w 0) :: rest)) :=
  tr_gf (i := 0) (k := 5) C hP (by decide) rfl rfl hinX8 (by decide) mf_X8_13 rfl rfl hdg kk
theorem mf_X8_16 : Cond.fieldLink RX8 16 RX8 (TX8 6).2.1 (TX8 6).2.2.1 ∈ tr_T := tr_in 584 (by decide +kernel) rfl
theorem gf_X8_16 (C : tr_Cx p s m args c cc nL RX8 tr_M w) (hP : va_P w.1 vwCl (tr_cs tr_M w h) H) (hdg : decode cc pc = .ok (.getfield 16, 3))
    (kk : W p l e R s m args below meth c H locs cells slots Q (F0 m (pc + 3) ls (.ref (tr_ad w 3) :: rest))) : W p l e R s m args below meth c H locs cells slots Q (F0 m pc ls (.ref (tr_ad w 0) :: rest)) :=
  tr_gf (i := 0) (k := 6) C hP (by decide) rfl rfl hinX8 (by decide) mf_X8_16 rfl rfl hdg kk
theorem mf_X8_19 : Cond.fieldLink RX8 19 RX8 (TX8 7).2.1 (TX8 7).2.2.1 ∈ tr_T := tr_in 585 (by decide +kernel) rfl
theorem gf_X8_19 (C : tr_Cx p s m args c cc nL RX8 tr_M w) (hP : va_P w.1 vwCl (tr_cs tr_M w h) H) (hdg : decode cc pc = .ok (.getfield 19, 3))
    (kk : W p l e R s m args below meth c H locs cells slots Q (F0 m (pc + 3) ls (.ref (tr_ad w 4) :: rest))) : W p l e R s m args below meth c H locs cells slots Q (F0 m pc ls (.ref (tr_ad w 0) :: rest)) :=
  tr_gf (i := 0) (k := 7) C hP (by decide) rfl rfl hinX8 (by decide) mf_X8_19 rfl rfl hdg kk
theorem mf_X8_22 : Cond.fieldLink RX8 22 RX8 (TX8 8).2.1 (TX8 8).2.2.1 ∈ tr_T := tr_in 586 (by decide +kernel) rfl
theorem gf_X8_22 (C : tr_Cx p s m args c cc nL RX8 tr_M w) (hP : va_P w.1 vwCl (tr_cs tr_M w h) H) (hdg : decode cc pc = .ok (.getfield 22, 3))
    (kk : W p l e R s m args below meth c H locs cells slots Q (F0 m (pc + 3) ls (.ref (tr_ad w 5) :: rest))) : W p l e R s m args below meth c H locs cells slots Q (F0 m pc ls (.ref (tr_ad w 0) :: rest)) :=
  tr_gf (i := 0) (k := 8) C hP (by decide) rfl rfl hinX8 (by decide) mf_X8_22 rfl rfl hdg kk
theorem mf_X8_25 : Cond.fieldLink RX8 25 RX8 (TX8 10).2.1 (TX8 10).2.2.1 ∈ tr_T := tr_in 588 (by decide +kernel) rfl
theorem gf_X8_25 (C : tr_Cx p s m args c cc nL RX8 tr_M w) (hP : va_P w.1 vwCl (tr_cs tr_M w h) H) (hdg : decode cc pc = .ok (.getfield 25, 3))
    (kk : W p l e R s m args below meth c H locs cells slots Q (F0 m (pc + 3) ls (.ref (tr_ad w 6) :: rest))) : W p l e R s m args below meth c H locs cells slots Q (F0 m pc ls (.ref (tr_ad w 0) :: rest)) :=
  tr_gf (i := 0) (k := 10) C hP (by decide) rfl rfl hinX8 (by decide) mf_X8_25 rfl rfl hdg kk
theorem mf_X8_28 : Cond.fieldLink RX8 28 RX8 (TX8 11).2.1 (TX8 11).2.2.1 ∈ tr_T := tr_in 589 (by decide +kernel) rfl
theorem gf_X8_28 (C : tr_Cx p s m args c cc nL RX8 tr_M w) (hP : va_P w.1 vwCl (tr_cs tr_M w h) H) (hdg : decode cc pc = .ok (.getfield 28, 3))
    (kk : W p l e R s m args below meth c H locs cells slots Q (F0 m (pc + 3) ls (.ref (tr_ad w 7) :: rest))) : W p l e R s m args below meth c H locs cells slots Q (F0 m pc ls (.ref (tr_ad w 0) :: rest)) :=
  tr_gf (i := 0) (k := 11) C hP (by decide) rfl rfl hinX8 (by decide) mf_X8_28 rfl rfl hdg kk
theorem mf_X8_32 : Cond.fieldLink RX8 32 RX8 (TX8 13).2.1 (TX8 13).2.2.1 ∈ tr_T := tr_in 591 (by decide +kernel) rfl
theorem gf_X8_32 (C : tr_Cx p s m args c cc nL RX8 tr_M w) (hP : va_P w.1 vwCl (tr_cs tr_M w h) H) (hdg : decode cc pc = .ok (.getfield 32, 3))
    (kk : W p l e R s m args below meth c H locs cells slots Q (F0 m (pc + 3) ls (.ref (tr_ad w 8) :: rest))) : W p l e R s m args below meth c H locs cells slots Q (F0 m pc ls (.ref (tr_ad w 0) :: rest)) :=
  tr_gf (i := 0) (k := 13) C hP (by decide) rfl rfl hinX8 (by decide) mf_X8_32 rfl rfl hdg kk
theorem mf_X8_35 : Cond.fieldLink RX8 35 RX8 (TX8 14).2.1 (TX8 14).2.2.1 ∈ tr_T := tr_in 592 (by decide +kernel) rfl
theorem gf_X8_35 (C : tr_Cx p s m args c cc nL RX8 tr_M w) (hP : va_P w.1 vwCl (tr_cs tr_M w h) H) (hdg : decode cc pc = .ok (.getfield 35, 3))
    (kk : W p l e R s m args below meth c H locs cells slots Q (F0 m (pc + 3) ls (.ref (tr_ad w 9) :: rest))) : W p l e R s m args below meth c H locs cells slots Q (F0 m pc ls (.ref (tr_ad w 0) :: rest)) :=
  tr_gf (i := 0) (k := 14) C hP (by decide) rfl rfl hinX8 (by decide) mf_X8_35 rfl rfl hdg kk
theorem mf_X8_38 : Cond.fieldLink RX8 38 RX8 (TX8 15).2.1 (TX8 15).2.2.1 ∈ tr_T := tr_in 593 (by decide +kernel) rfl
theorem gf_X8_38 (C : tr_Cx p s m args c cc nL RX8 tr_M w) (hP : va_P w.1 vwCl (tr_cs tr_M w h) H) (hdg : decode cc pc = .ok (.getfield 38, 3))
    (kk : W p l e R s m args below meth c H locs cells slots Q (F0 m (pc + 3) ls (.ref (tr_ad w 10) :: rest))) : W p l e R s m args below meth c H locs cells slots Q (F0 m pc ls (.ref (tr_ad w 0) :: rest)) :=
  tr_gf (i := 0) (k := 15) C hP (by decide) rfl rfl hinX8 (by decide) mf_X8_38 rfl rfl hdg kk
theorem mf_X8_41 : Cond.fieldLink RX8 41 RX8 (TX8 23).2.1 (TX8 23).2.2.1 ∈ tr_T := tr_in 601 (by decide +kernel) rfl
theorem gf_X8_41 (C : tr_Cx p s m args c cc nL RX8 tr_M w) (hP : va_P w.1 vwCl (tr_cs tr_M w h) H) (hdg : decode cc pc = .ok (.getfield 41, 3))
    (kk : W p l e R s m args below meth c H locs cells slots Q (F0 m (pc + 3) ls (.ref (tr_ad w 11) :: rest))) : W p l e R s m args below meth c H locs cells slots Q (F0 m pc ls (.ref (tr_ad w 0) :: rest)) :=
  tr_gf (i := 0) (k := 23) C hP (by decide) rfl rfl hinX8 (by decide) mf_X8_41 rfl rfl hdg kk
theorem mf_X8_44 : Cond.fieldLink RX8 44 RX8 (TX8 24).2.1 (TX8 24).2.2.1 ∈ tr_T := tr_in 602 (by decide +kernel) rfl
theorem gf_X8_44 (C : tr_Cx p s m args c cc nL RX8 tr_M w) (hP : va_P w.1 vwCl (tr_cs tr_M w h) H) (hdg : decode cc pc = .ok (.getfield 44, 3))
    (kk : W p l e R s m args below meth c H locs cells slots Q (F0 m (pc + 3) ls (.ref (tr_ad w 12) :: rest))) : W p l e R s m args below meth c H locs cells slots Q (F0 m pc ls (.ref (tr_ad w 0) :: rest)) :=
  tr_gf (i := 0) (k := 24) C hP (by decide) rfl rfl hinX8 (by decide) mf_X8_44 rfl rfl hdg kk
theorem mf_X8_47 : Cond.fieldLink RX8 47 RX8 (TX8 25).2.1 (TX8 25).2.2.1 ∈ tr_T := tr_in 603 (by decide +kernel) rfl
theorem gf_X8_47 (C : tr_Cx p s m args c cc nL RX8 tr_M w) (hP : va_P w.1 vwCl (tr_cs tr_M w h) H) (hdg : decode cc pc = .ok (.getfield 47, 3))
    (kk : W p l e R s m args below meth c H locs cells slots Q (F0 m (pc + 3) ls (.ref (tr_ad w 13) :: rest))) : W p l e R s m args below meth c H locs cells slots Q (F0 m pc ls (.ref (tr_ad w 0) :: rest)) :=
  tr_gf (i := 0) (k := 25) C hP (by decide) rfl rfl hinX8 (by decide) mf_X8_47 rfl rfl hdg kk
theorem mf_X8_50 : Cond.fieldLink RX8 50 RX8 (TX8 26).2.1 (TX8 26).2.2.1 ∈ tr_T := tr_in 604 (by decide +kernel) rfl
theorem gf_X8_50 (C : tr_Cx p s m args c cc nL RX8 tr_M w) (hP : va_P w.1 vwCl (tr_cs tr_M w h) H) (hdg : decode cc pc = .ok (.getfield 50, 3))
    (kk : W p l e R s m args below meth c H locs cells slots Q (F0 m (pc + 3) ls (.ref (tr_ad w 14) :: rest))) : W p l e R s m args below meth c H locs cells slots Q (F0 m pc ls (.ref (tr_ad w 0) :: rest)) :=
  tr_gf (i := 0) (k := 26) C hP (by decide) rfl rfl hinX8 (by decide) mf_X8_50 rfl rfl hdg kk
theorem mf_X8_53 : Cond.fieldLink RX8 53 RX8 (TX8 27).2.1 (TX8 27).2.2.1 ∈ tr_T := tr_in 605 (by decide +kernel) rfl
theorem gf_X8_53 (C : tr_Cx p s m args c cc nL RX8 tr_M w) (hP : va_P w.1 vwCl (tr_cs tr_M w h) H) (hdg : decode cc pc = .ok (.getfield 53, 3))
    (kk : W p l e R s m args below meth c H locs cells slots Q (F0 m (pc + 3) ls (.ref (tr_ad w 15) :: rest))) : W p l e R s m args below meth c H locs cells slots Q (F0 m pc ls (.ref (tr_ad w 0) :: rest)) :=
  tr_gf (i := 0) (k := 27) C hP (by decide) rfl rfl hinX8 (by decide) mf_X8_53 rfl rfl hdg kk
theorem mf_X8_56 : Cond.fieldLink RX8 56 RX8 (TX8 30).2.1 (TX8 30).2.2.1 ∈ tr_T := tr_in 608 (by decide +kernel) rfl
theorem gf_X8_56 (C : tr_Cx p s m args c cc nL RX8 tr_M w) (hP : va_P w.1 vwCl (tr_cs tr_M w h) H) (hdg : decode cc pc = .ok (.getfield 56, 3))
    (kk : W p l e R s m args below meth c H locs cells slots Q (F0 m (pc + 3) ls (.ref (tr_ad w 16) :: rest))) : W p l e R s m args below meth c H locs cells slots Q (F0 m pc ls (.ref (tr_ad w 0) :: rest)) :=
  tr_gf (i := 0) (k := 30) C hP (by decide) rfl rfl hinX8 (by decide) mf_X8_56 rfl rfl hdg kk
theorem mf_X8_59 : Cond.fieldLink RX8 59 RX8 (TX8 0).2.1 (TX8 0).2.2.1 ∈ tr_T := tr_in 578 (by decide +kernel) rfl
theorem gf_X8_59 (C : tr_Cx p s m args c cc nL RX8 tr_M w) (hP : va_P w.1 vwCl (tr_cs tr_M w h) H) (hdg : decode cc pc = .ok (.getfield 59, 3))
    (kk : W p l e R s m args below meth c H locs cells slots Q (F0 m (pc + 3) ls (.int (h.1 0 0) :: rest))) : W p l e R s m args below meth c H locs cells slots Q (F0 m pc ls (.ref (tr_ad w 0) :: rest)) :=
  tr_gf (i := 0) (k := 0) C hP (by decide) rfl rfl hinX8 (by decide) mf_X8_59 rfl rfl hdg kk
theorem pf_X8_59 {v : Int32} (C : tr_Cx p s m args c cc nL RX8 tr_M w) (hP : va_P w.1 vwCl (tr_cs tr_M w h) H) (hS : va_S (tr_R tr_M w) s.heap H locs) (hdg : decode cc pc = .ok (.putfield 59, 3))
    (kk : ∀ (H1 : Heap) (locs1 : List Loc), va_P w.1 vwCl (tr_cs tr_M w (tr_si h 0 0 v)) H1 → va_S (tr_R tr_M w) s.heap H1 locs1 → W p l e R s m args below meth c H1 locs1 cells slots Q (F0 m (pc + 3) ls rest)) : W p l e R s m args below meth c H locs cells slots Q (F0 m pc ls (.int v :: .ref (tr_ad w 0) :: rest)) :=
  tr_pfi (i := 0) (k := 0) C hP hS tyX8 tyX8_ok nmX8 (by decide) rfl rfl hinX8 (by decide) mf_X8_59 rfl rfl (by decide +kernel) (Nat.le_of_ble_eq_true rfl) rfl hdg kk
theorem mf_X8_73 : Cond.fieldLink RX8 73 RX8 (TX8 2).2.1 (TX8 2).2.2.1 ∈ tr_T := tr_in 580 (by decide +kernel) rfl
theorem gf_X8_73 (C : tr_Cx p s m args c cc nL RX8 tr_M w) (hP : va_P w.1 vwCl (tr_cs tr_M w h) H) (hdg : decode cc pc = .ok (.getfield 73, 3))
    (kk : W p l e R s m args below meth c H locs cells slots Q (F0 m (pc + 3) ls (.int (h.1 0 2) :: rest))) : W p l e R s m args below meth c H locs cells slots Q (F0 m pc ls (.ref (tr_ad w 0) :: rest)) :=
  tr_gf (i := 0) (k := 2) C hP (by decide) rfl rfl hinX8 (by decide) mf_X8_73 rfl rfl hdg kk
theorem pf_X8_73 {v : Int32} (C : tr_Cx p s m args c cc nL RX8 tr_M w) (hP : va_P w.1 vwCl (tr_cs tr_M w h) H) (hS : va_S (tr_R tr_M w) s.heap H locs) (hdg : decode cc pc = .ok (.putfield 73, 3))
    (kk : ∀ (H1 : Heap) (locs1 : List Loc), va_P w.1 vwCl (tr_cs tr_M w (tr_si h 0 2 v)) H1 → va_S (tr_R tr_M w) s.heap H1 locs1 → W p l e R s m args below meth c H1 locs1 cells slots Q (F0 m (pc + 3) ls rest)) : W p l e R s m args below meth c H locs cells slots Q (F0 m pc ls (.int v :: .ref (tr_ad w 0) :: rest)) :=
  tr_pfi (i := 0) (k := 2) C hP hS tyX8 tyX8_ok nmX8 (by decide) rfl rfl hinX8 (by decide) mf_X8_73 rfl rfl (by decide +kernel) (Nat.le_of_ble_eq_true rfl) rfl hdg kk
theorem mf_X8_76 : Cond.fieldLink RX8 76 RX8 (TX8 3).2.1 (TX8 3).2.2.1 ∈ tr_T := tr_in 581 (by decide +kernel) rfl
theorem gf_X8_76 (C : tr_Cx p s m args c cc nL RX8 tr_M w) (hP : va_P w.1 vwCl (tr_cs tr_M w h) H) (hdg : decode cc pc = .ok (.getfield 76, 3))
    (kk : W p l e R s m args below meth c H locs cells slots Q (F0 m (pc + 3) ls (.int (h.1 0 3) :: rest))) : W p l e R s m args below meth c H locs cells slots Q (F0 m pc ls (.ref (tr_ad w 0) :: rest)) :=
  tr_gf (i := 0) (k := 3) C hP (by decide) rfl rfl hinX8 (by decide) mf_X8_76 rfl rfl hdg kk
theorem pf_X8_76 {v : Int32} (C : tr_Cx p s m args c cc nL RX8 tr_M w) (hP : va_P w.1 vwCl (tr_cs tr_M w h) H) (hS : va_S (tr_R tr_M w) s.heap H locs) (hdg : decode cc pc = .ok (.putfield 76, 3))
    (kk : ∀ (H1 : Heap) (locs1 : List Loc), va_P w.1 vwCl (tr_cs tr_M w (tr_si h 0 3 v)) H1 → va_S (tr_R tr_M w) s.heap H1 locs1 → W p l e R s m args below meth c H1 locs1 cells slots Q (F0 m (pc + 3) ls rest)) : W p l e R s m args below meth c H locs cells slots Q (F0 m pc ls (.int v :: .ref (tr_ad w 0) :: rest)) :=
  tr_pfi (i := 0) (k := 3) C hP hS tyX8 tyX8_ok nmX8 (by decide) rfl rfl hinX8 (by decide) mf_X8_76 rfl rfl (by decide +kernel) (Nat.le_of_ble_eq_true rfl) rfl hdg kk
theorem mf_X8_87 : Cond.fieldLink RX8 87 RX8 (TX8 4).2.1 (TX8 4).2.2.1 ∈ tr_T := tr_in 582 (by decide +kernel) rfl
theorem gf_X8_87 (C : tr_Cx p s m args c cc nL RX8 tr_M w) (hP : va_P w.1 vwCl (tr_cs tr_M w h) H) (hdg : decode cc pc = .ok (.getfield 87, 3))
    (kk : W p l e R s m args below meth c H locs cells slots Q (F0 m (pc + 3) ls (.int (h.1 0 4) :: rest))) : W p l e R s m args below meth c H locs cells slots Q (F0 m pc ls (.ref (tr_ad w 0) :: rest)) :=
  tr_gf (i := 0) (k := 4) C hP (by decide) rfl rfl hinX8 (by decide) mf_X8_87 rfl rfl hdg kk
theorem pf_X8_87 {v : Int32} (C : tr_Cx p s m args c cc nL RX8 tr_M w) (hP : va_P w.1 vwCl (tr_cs tr_M w h) H) (hS : va_S (tr_R tr_M w) s.heap H locs) (hdg : decode cc pc = .ok (.putfield 87, 3))
    (kk : ∀ (H1 : Heap) (locs1 : List Loc), va_P w.1 vwCl (tr_cs tr_M w (tr_si h 0 4 v)) H1 → va_S (tr_R tr_M w) s.heap H1 locs1 → W p l e R s m args below meth c H1 locs1 cells slots Q (F0 m (pc + 3) ls rest)) : W p l e R s m args below meth c H locs cells slots Q (F0 m pc ls (.int v :: .ref (tr_ad w 0) :: rest)) :=
  tr_pfi (i := 0) (k := 4) C hP hS tyX8 tyX8_ok nmX8 (by decide) rfl rfl hinX8 (by decide) mf_X8_87 rfl rfl (by decide +kernel) (Nat.le_of_ble_eq_true rfl) rfl hdg kk
theorem mf_X8_102 : Cond.fieldLink RX8 102 RX8 (TX8 9).2.1 (TX8 9).2.2.1 ∈ tr_T := tr_in 587 (by decide +kernel) rfl
theorem gf_X8_102 (C : tr_Cx p s m args c cc nL RX8 tr_M w) (hP : va_P w.1 vwCl (tr_cs tr_M w h) H) (hdg : decode cc pc = .ok (.getfield 102, 3))
    (kk : W p l e R s m args below meth c H locs cells slots Q (F0 m (pc + 3) ls (.int (h.1 0 9) :: rest))) : W p l e R s m args below meth c H locs cells slots Q (F0 m pc ls (.ref (tr_ad w 0) :: rest)) :=
  tr_gf (i := 0) (k := 9) C hP (by decide) rfl rfl hinX8 (by decide) mf_X8_102 rfl rfl hdg kk
theorem pf_X8_102 {v : Int32} (C : tr_Cx p s m args c cc nL RX8 tr_M w) (hP : va_P w.1 vwCl (tr_cs tr_M w h) H) (hS : va_S (tr_R tr_M w) s.heap H locs) (hdg : decode cc pc = .ok (.putfield 102, 3))
    (kk : ∀ (H1 : Heap) (locs1 : List Loc), va_P w.1 vwCl (tr_cs tr_M w (tr_si h 0 9 v)) H1 → va_S (tr_R tr_M w) s.heap H1 locs1 → W p l e R s m args below meth c H1 locs1 cells slots Q (F0 m (pc + 3) ls rest)) : W p l e R s m args below meth c H locs cells slots Q (F0 m pc ls (.int v :: .ref (tr_ad w 0) :: rest)) :=
  tr_pfi (i := 0) (k := 9) C hP hS tyX8 tyX8_ok nmX8 (by decide) rfl rfl hinX8 (by decide) mf_X8_102 rfl rfl (by decide +kernel) (Nat.le_of_ble_eq_true rfl) rfl hdg kk
theorem mf_X8_109 : Cond.fieldLink RX8 109 RX8 (TX8 17).2.1 (TX8 17).2.2.1 ∈ tr_T := tr_in 595 (by decide +kernel) rfl
theorem gf_X8_109 (C : tr_Cx p s m args c cc nL RX8 tr_M w) (hP : va_P w.1 vwCl (tr_cs tr_M w h) H) (hdg : decode cc pc = .ok (.getfield 109, 3))
    (kk : W p l e R s m args below meth c H locs cells slots Q (F0 m (pc + 3) ls (.int (h.1 0 17) :: rest))) : W p l e R s m args below meth c H locs cells slots Q (F0 m pc ls (.ref (tr_ad w 0) :: rest)) :=
  tr_gf (i := 0) (k := 17) C hP (by decide) rfl rfl hinX8 (by decide) mf_X8_109 rfl rfl hdg kk
theorem pf_X8_109 {v : Int32} (C : tr_Cx p s m args c cc nL RX8 tr_M w) (hP : va_P w.1 vwCl (tr_cs tr_M w h) H) (hS : va_S (tr_R tr_M w) s.heap H locs) (hdg : decode cc pc = .ok (.putfield 109, 3))
    (kk : ∀ (H1 : Heap) (locs1 : List Loc), va_P w.1 vwCl (tr_cs tr_M w (tr_si h 0 17 v)) H1 → va_S (tr_R tr_M w) s.heap H1 locs1 → W p l e R s m args below meth c H1 locs1 cells slots Q (F0 m (pc + 3) ls rest)) : W p l e R s m args below meth c H locs cells slots Q (F0 m pc ls (.int v :: .ref (tr_ad w 0) :: rest)) :=
  tr_pfi (i := 0) (k := 17) C hP hS tyX8 tyX8_ok nmX8 (by decide) rfl rfl hinX8 (by decide) mf_X8_109 rfl rfl (by decide +kernel) (Nat.le_of_ble_eq_true rfl) rfl hdg kk
theorem mf_X8_112 : Cond.fieldLink RX8 112 RX8 (TX8 22).2.1 (TX8 22).2.2.1 ∈ tr_T := tr_in 600 (by decide +kernel) rfl
theorem gf_X8_112 (C : tr_Cx p s m args c cc nL RX8 tr_M w) (hP : va_P w.1 vwCl (tr_cs tr_M w h) H) (hdg : decode cc pc = .ok (.getfield 112, 3))
    (kk : W p l e R s m args below meth c H locs cells slots Q (F0 m (pc + 3) ls (.long (h.2 0 22) :: rest))) : W p l e R s m args below meth c H locs cells slots Q (F0 m pc ls (.ref (tr_ad w 0) :: rest)) :=
  tr_gf (i := 0) (k := 22) C hP (by decide) rfl rfl hinX8 (by decide) mf_X8_112 rfl rfl hdg kk
theorem pf_X8_112 {v : Int64} (C : tr_Cx p s m args c cc nL RX8 tr_M w) (hP : va_P w.1 vwCl (tr_cs tr_M w h) H) (hS : va_S (tr_R tr_M w) s.heap H locs) (hdg : decode cc pc = .ok (.putfield 112, 3))
    (kk : ∀ (H1 : Heap) (locs1 : List Loc), va_P w.1 vwCl (tr_cs tr_M w (tr_sl h 0 22 v)) H1 → va_S (tr_R tr_M w) s.heap H1 locs1 → W p l e R s m args below meth c H1 locs1 cells slots Q (F0 m (pc + 3) ls rest)) : W p l e R s m args below meth c H locs cells slots Q (F0 m pc ls (.long v :: .ref (tr_ad w 0) :: rest)) :=
  tr_pfl (i := 0) (k := 22) C hP hS tyX8 tyX8_ok nmX8 (by decide) rfl rfl hinX8 (by decide) mf_X8_112 rfl rfl (by decide +kernel) (Nat.le_of_ble_eq_true rfl) rfl hdg kk
theorem mf_X8_116 : Cond.fieldLink RX8 116 RX8 (TX8 19).2.1 (TX8 19).2.2.1 ∈ tr_T := tr_in 597 (by decide +kernel) rfl
theorem gf_X8_116 (C : tr_Cx p s m args c cc nL RX8 tr_M w) (hP : va_P w.1 vwCl (tr_cs tr_M w h) H) (hdg : decode cc pc = .ok (.getfield 116, 3))
    (kk : W p l e R s m args below meth c H locs cells slots Q (F0 m (pc + 3) ls (.int (h.1 0 19) :: rest))) : W p l e R s m args below meth c H locs cells slots Q (F0 m pc ls (.ref (tr_ad w 0) :: rest)) :=
  tr_gf (i := 0) (k := 19) C hP (by decide) rfl rfl hinX8 (by decide) mf_X8_116 rfl rfl hdg kk
theorem pf_X8_116 {v : Int32} (C : tr_Cx p s m args c cc nL RX8 tr_M w) (hP : va_P w.1 vwCl (tr_cs tr_M w h) H) (hS : va_S (tr_R tr_M w) s.heap H locs) (hdg : decode cc pc = .ok (.putfield 116, 3))
    (kk : ∀ (H1 : Heap) (locs1 : List Loc), va_P w.1 vwCl (tr_cs tr_M w (tr_si h 0 19 v)) H1 → va_S (tr_R tr_M w) s.heap H1 locs1 → W p l e R s m args below meth c H1 locs1 cells slots Q (F0 m (pc + 3) ls rest)) : W p l e R s m args below meth c H locs cells slots Q (F0 m pc ls (.int v :: .ref (tr_ad w 0) :: rest)) :=
  tr_pfi (i := 0) (k := 19) C hP hS tyX8 tyX8_ok nmX8 (by decide) rfl rfl hinX8 (by decide) mf_X8_116 rfl rfl (by decide +kernel) (Nat.le_of_ble_eq_true rfl) rfl hdg kk
theorem mf_X8_119 : Cond.fieldLink RX8 119 RX8 (TX8 18).2.1 (TX8 18).2.2.1 ∈ tr_T := tr_in 596 (by decide +kernel) rfl
theorem gf_X8_119 (C : tr_Cx p s m args c cc nL RX8 tr_M w) (hP : va_P w.1 vwCl (tr_cs tr_M w h) H) (hdg : decode cc pc = .ok (.getfield 119, 3))
    (kk : W p l e R s m args below meth c H locs cells slots Q (F0 m (pc + 3) ls (.int (h.1 0 18) :: rest))) : W p l e R s m args below meth c H locs cells slots Q (F0 m pc ls (.ref (tr_ad w 0) :: rest)) :=
  tr_gf (i := 0) (k := 18) C hP (by decide) rfl rfl hinX8 (by decide) mf_X8_119 rfl rfl hdg kk
theorem pf_X8_119 {v : Int32} (C : tr_Cx p s m args c cc nL RX8 tr_M w) (hP : va_P w.1 vwCl (tr_cs tr_M w h) H) (hS : va_S (tr_R tr_M w) s.heap H locs) (hdg : decode cc pc = .ok (.putfield 119, 3))
    (kk : ∀ (H1 : Heap) (locs1 : List Loc), va_P w.1 vwCl (tr_cs tr_M w (tr_si h 0 18 v)) H1 → va_S (tr_R tr_M w) s.heap H1 locs1 → W p l e R s m args below meth c H1 locs1 cells slots Q (F0 m (pc + 3) ls rest)) : W p l e R s m args below meth c H locs cells slots Q (F0 m pc ls (.int v :: .ref (tr_ad w 0) :: rest)) :=
  tr_pfi (i := 0) (k := 18) C hP hS tyX8 tyX8_ok nmX8 (by decide) rfl rfl hinX8 (by decide) mf_X8_119 rfl rfl (by decide +kernel) (Nat.le_of_ble_eq_true rfl) rfl hdg kk
theorem mf_X8_122 : Cond.fieldLink RX8 122 RX8 (TX8 20).2.1 (TX8 20).2.2.1 ∈ tr_T := tr_in 598 (by decide +kernel) rfl
theorem gf_X8_122 (C : tr_Cx p s m args c cc nL RX8 tr_M w) (hP : va_P w.1 vwCl (tr_cs tr_M w h) H) (hdg : decode cc pc = .ok (.getfield 122, 3))
    (kk : W p l e R s m args below meth c H locs cells slots Q (F0 m (pc + 3) ls (.long (h.2 0 20) :: rest))) : W p l e R s m args below meth c H locs cells slots Q (F0 m pc ls (.ref (tr_ad w 0) :: rest)) :=
  tr_gf (i := 0) (k := 20) C hP (by decide) rfl rfl hinX8 (by decide) mf_X8_122 rfl rfl hdg kk
theorem pf_X8_122 {v : Int64} (C : tr_Cx p s m args c cc nL RX8 tr_M w) (hP : va_P w.1 vwCl (tr_cs tr_M w h) H) (hS : va_S (tr_R tr_M w) s.heap H locs) (hdg : decode cc pc = .ok (.putfield 122, 3))
    (kk : ∀ (H1 : Heap) (locs1 : List Loc), va_P w.1 vwCl (tr_cs tr_M w (tr_sl h 0 20 v)) H1 → va_S (tr_R tr_M w) s.heap H1 locs1 → W p l e R s m args below meth c H1 locs1 cells slots Q (F0 m (pc + 3) ls rest)) : W p l e R s m args below meth c H locs cells slots Q (F0 m pc ls (.long v :: .ref (tr_ad w 0) :: rest)) :=
  tr_pfl (i := 0) (k := 20) C hP hS tyX8 tyX8_ok nmX8 (by decide) rfl rfl hinX8 (by decide) mf_X8_122 rfl rfl (by decide +kernel) (Nat.le_of_ble_eq_true rfl) rfl hdg kk
theorem mf_X8_125 : Cond.fieldLink RX8 125 RX8 (TX8 21).2.1 (TX8 21).2.2.1 ∈ tr_T := tr_in 599 (by decide +kernel) rfl
theorem gf_X8_125 (C : tr_Cx p s m args c cc nL RX8 tr_M w) (hP : va_P w.1 vwCl (tr_cs tr_M w h) H) (hdg : decode cc pc = .ok (.getfield 125, 3))
    (kk : W p l e R s m args below meth c H locs cells slots Q (F0 m (pc + 3) ls (.int (h.1 0 21) :: rest))) : W p l e R s m args below meth c H locs cells slots Q (F0 m pc ls (.ref (tr_ad w 0) :: rest)) :=
  tr_gf (i := 0) (k := 21) C hP (by decide) rfl rfl hinX8 (by decide) mf_X8_125 rfl rfl hdg kk
theorem pf_X8_125 {v : Int32} (C : tr_Cx p s m args c cc nL RX8 tr_M w) (hP : va_P w.1 vwCl (tr_cs tr_M w h) H) (hS : va_S (tr_R tr_M w) s.heap H locs) (hdg : decode cc pc = .ok (.putfield 125, 3))
    (kk : ∀ (H1 : Heap) (locs1 : List Loc), va_P w.1 vwCl (tr_cs tr_M w (tr_si h 0 21 v)) H1 → va_S (tr_R tr_M w) s.heap H1 locs1 → W p l e R s m args below meth c H1 locs1 cells slots Q (F0 m (pc + 3) ls rest)) : W p l e R s m args below meth c H locs cells slots Q (F0 m pc ls (.int v :: .ref (tr_ad w 0) :: rest)) :=
  tr_pfi (i := 0) (k := 21) C hP hS tyX8 tyX8_ok nmX8 (by decide) rfl rfl hinX8 (by decide) mf_X8_125 rfl rfl (by decide +kernel) (Nat.le_of_ble_eq_true rfl) rfl hdg kk
theorem mf_X8_161 : Cond.fieldLink RX8 161 RX8 (TX8 12).2.1 (TX8 12).2.2.1 ∈ tr_T := tr_in 590 (by decide +kernel) rfl
theorem gf_X8_161 (C : tr_Cx p s m args c cc nL RX8 tr_M w) (hP : va_P w.1 vwCl (tr_cs tr_M w h) H) (hdg : decode cc pc = .ok (.getfield 161, 3))
    (kk : W p l e R s m args below meth c H locs cells slots Q (F0 m (pc + 3) ls (.int (h.1 0 12) :: rest))) : W p l e R s m args below meth c H locs cells slots Q (F0 m pc ls (.ref (tr_ad w 0) :: rest)) :=
  tr_gf (i := 0) (k := 12) C hP (by decide) rfl rfl hinX8 (by decide) mf_X8_161 rfl rfl hdg kk
theorem pf_X8_161 {v : Int32} (C : tr_Cx p s m args c cc nL RX8 tr_M w) (hP : va_P w.1 vwCl (tr_cs tr_M w h) H) (hS : va_S (tr_R tr_M w) s.heap H locs) (hdg : decode cc pc = .ok (.putfield 161, 3))
    (kk : ∀ (H1 : Heap) (locs1 : List Loc), va_P w.1 vwCl (tr_cs tr_M w (tr_si h 0 12 v)) H1 → va_S (tr_R tr_M w) s.heap H1 locs1 → W p l e R s m args below meth c H1 locs1 cells slots Q (F0 m (pc + 3) ls rest)) : W p l e R s m args below meth c H locs cells slots Q (F0 m pc ls (.int v :: .ref (tr_ad w 0) :: rest)) :=
  tr_pfi (i := 0) (k := 12) C hP hS tyX8 tyX8_ok nmX8 (by decide) rfl rfl hinX8 (by decide) mf_X8_161 rfl rfl (by decide +kernel) (Nat.le_of_ble_eq_true rfl) rfl hdg kk
theorem mf_X8_234 : Cond.fieldLink RX8 234 RX8 (TX8 28).2.1 (TX8 28).2.2.1 ∈ tr_T := tr_in 606 (by decide +kernel) rfl
theorem gf_X8_234 (C : tr_Cx p s m args c cc nL RX8 tr_M w) (hP : va_P w.1 vwCl (tr_cs tr_M w h) H) (hdg : decode cc pc = .ok (.getfield 234, 3))
    (kk : W p l e R s m args below meth c H locs cells slots Q (F0 m (pc + 3) ls (.int (h.1 0 28) :: rest))) : W p l e R s m args below meth c H locs cells slots Q (F0 m pc ls (.ref (tr_ad w 0) :: rest)) :=
  tr_gf (i := 0) (k := 28) C hP (by decide) rfl rfl hinX8 (by decide) mf_X8_234 rfl rfl hdg kk
theorem pf_X8_234 {v : Int32} (C : tr_Cx p s m args c cc nL RX8 tr_M w) (hP : va_P w.1 vwCl (tr_cs tr_M w h) H) (hS : va_S (tr_R tr_M w) s.heap H locs) (hdg : decode cc pc = .ok (.putfield 234, 3))
    (kk : ∀ (H1 : Heap) (locs1 : List Loc), va_P w.1 vwCl (tr_cs tr_M w (tr_si h 0 28 v)) H1 → va_S (tr_R tr_M w) s.heap H1 locs1 → W p l e R s m args below meth c H1 locs1 cells slots Q (F0 m (pc + 3) ls rest)) : W p l e R s m args below meth c H locs cells slots Q (F0 m pc ls (.int v :: .ref (tr_ad w 0) :: rest)) :=
  tr_pfi (i := 0) (k := 28) C hP hS tyX8 tyX8_ok nmX8 (by decide) rfl rfl hinX8 (by decide) mf_X8_234 rfl rfl (by decide +kernel) (Nat.le_of_ble_eq_true rfl) rfl hdg kk
theorem mf_X8_237 : Cond.fieldLink RX8 237 RX8 (TX8 29).2.1 (TX8 29).2.2.1 ∈ tr_T := tr_in 607 (by decide +kernel) rfl
theorem gf_X8_237 (C : tr_Cx p s m args c cc nL RX8 tr_M w) (hP : va_P w.1 vwCl (tr_cs tr_M w h) H) (hdg : decode cc pc = .ok (.getfield 237, 3))
    (kk : W p l e R s m args below meth c H locs cells slots Q (F0 m (pc + 3) ls (.int (h.1 0 29) :: rest))) : W p l e R s m args below meth c H locs cells slots Q (F0 m pc ls (.ref (tr_ad w 0) :: rest)) :=
  tr_gf (i := 0) (k := 29) C hP (by decide) rfl rfl hinX8 (by decide) mf_X8_237 rfl rfl hdg kk
theorem pf_X8_237 {v : Int32} (C : tr_Cx p s m args c cc nL RX8 tr_M w) (hP : va_P w.1 vwCl (tr_cs tr_M w h) H) (hS : va_S (tr_R tr_M w) s.heap H locs) (hdg : decode cc pc = .ok (.putfield 237, 3))
    (kk : ∀ (H1 : Heap) (locs1 : List Loc), va_P w.1 vwCl (tr_cs tr_M w (tr_si h 0 29 v)) H1 → va_S (tr_R tr_M w) s.heap H1 locs1 → W p l e R s m args below meth c H1 locs1 cells slots Q (F0 m (pc + 3) ls rest)) : W p l e R s m args below meth c H locs cells slots Q (F0 m pc ls (.int v :: .ref (tr_ad w 0) :: rest)) :=
  tr_pfi (i := 0) (k := 29) C hP hS tyX8 tyX8_ok nmX8 (by decide) rfl rfl hinX8 (by decide) mf_X8_237 rfl rfl (by decide +kernel) (Nat.le_of_ble_eq_true rfl) rfl hdg kk
theorem mf_X8_251 : Cond.fieldLink RX8 251 RX8 (TX8 16).2.1 (TX8 16).2.2.1 ∈ tr_T := tr_in 594 (by decide +kernel) rfl
theorem gf_X8_251 (C : tr_Cx p s m args c cc nL RX8 tr_M w) (hP : va_P w.1 vwCl (tr_cs tr_M w h) H) (hdg : decode cc pc = .ok (.getfield 251, 3))
    (kk : W p l e R s m args below meth c H locs cells slots Q (F0 m (pc + 3) ls (.long (h.2 0 16) :: rest))) : W p l e R s m args below meth c H locs cells slots Q (F0 m pc ls (.ref (tr_ad w 0) :: rest)) :=
  tr_gf (i := 0) (k := 16) C hP (by decide) rfl rfl hinX8 (by decide) mf_X8_251 rfl rfl hdg kk
theorem pf_X8_251 {v : Int64} (C : tr_Cx p s m args c cc nL RX8 tr_M w) (hP : va_P w.1 vwCl (tr_cs tr_M w h) H) (hS : va_S (tr_R tr_M w) s.heap H locs) (hdg : decode cc pc = .ok (.putfield 251, 3))
    (kk : ∀ (H1 : Heap) (locs1 : List Loc), va_P w.1 vwCl (tr_cs tr_M w (tr_sl h 0 16 v)) H1 → va_S (tr_R tr_M w) s.heap H1 locs1 → W p l e R s m args below meth c H1 locs1 cells slots Q (F0 m (pc + 3) ls rest)) : W p l e R s m args below meth c H locs cells slots Q (F0 m pc ls (.long v :: .ref (tr_ad w 0) :: rest)) :=
  tr_pfl (i := 0) (k := 16) C hP hS tyX8 tyX8_ok nmX8 (by decide) rfl rfl hinX8 (by decide) mf_X8_251 rfl rfl (by decide +kernel) (Nat.le_of_ble_eq_true rfl) rfl hdg kk
end TRF
end
section
def tr_b2 {α β γ : Type} (o : Option (α × β)) (f : α → β → Option γ) : Option γ := o.bind fun q => f q.1 q.2
theorem tr_okb2 {α β γ : Type} {o : Option (α × β)} {f : α → β → Option γ} {P : γ → Prop} (h : tr_ok (tr_b2 o f) P) : ∃ a b, o = some (a, b) ∧ tr_ok (f a b) P := by
  obtain ⟨c, hc, hP⟩ := h
  unfold tr_b2 at hc
  cases ho : o with
  | none => rw [ho] at hc; cases hc
  | some q => rw [ho] at hc; exact ⟨q.1, q.2, rfl, c, hc, hP⟩
theorem tr_tso {x : Int32} {lo hi : Int} (h : ∀ k : Int, lo ≤ k → k ≤ hi → ¬ x = Int32.ofInt k) : x.toInt < lo ∨ hi < x.toInt := by
  rcases Int.lt_or_le x.toInt lo with h1 | h1
  · exact Or.inl h1
  · rcases Int.lt_or_le hi x.toInt with h2 | h2
    · exact Or.inr h2
    · exact absurd (Int32.ofInt_toInt x).symm (h _ h1 h2)
theorem tr_lso2 {x : Int32} {k1 k2 : Int32} {o1 o2 df : Int} (h1 : ¬ x = k1) (h2 : ¬ x = k2) : Op.lookupswitch.offset (#[(k1.toInt, o1), (k2.toInt, o2)] : Array (Int × Int)).toList df x.toInt = df := by
  show (if k1.toInt = x.toInt then o1 else if k2.toInt = x.toInt then o2 else df) = df
  rw [if_neg (fun h => h1 (Int32.toInt_inj.mp h.symm)), if_neg (fun h => h2 (Int32.toInt_inj.mp h.symm))]
end
section
noncomputable def f_J7_fill_53178_E20 (th2 : tr_H) : Option tr_H :=
  some th2
noncomputable def f_J7_fill_53178_L5 (tv1 : Int32) (tj1 : Nat) (tn1 : Nat) (tv901 : Int32) (tv3 : Int32) (th4 : tr_H) : Option ((Int32 × tr_H) ⊕ tr_H) :=
  if tv1 ≤ tv3 then
  (some (.inr th4))
  else
  (tr_gd tv3 tj1 <|
  tr_bd (tr_si th4 tn1 tv3.toNatClampNeg tv901) fun th7 =>
  tr_bd (tv3 + 1) fun tv8 =>
  some (.inl (tv8, th7)))
noncomputable def f_J7_fill_53178 (tn1 : Nat) (tj1 : Nat) (tv901 : Int32) (h : tr_H) : Option tr_H :=
  tr_bd (Int32.ofNat tj1) fun tv1 =>
  tr_bn (tr_lp (fun q => f_J7_fill_53178_L5 tv1 tj1 tn1 tv901 q.1 q.2) (0, h)) (fun q => f_J7_fill_53178_E20 q)
abbrev r_J7_fill_53178 : Room := { frames := 0, cells := 0, slots := 0, locals := 0 }
set_option maxHeartbeats 4000000 in
set_option maxRecDepth 100000 in
theorem c_J7_fill_53178 (l : Launch) (w : tr_E) (tn1 tj1 : Nat) (htn1 : tr_Ar tr_X w tn1 tj1) (tv901 : Int32) (h : tr_H) (h0 : tr_H) (hk : f_J7_fill_53178 tn1 tj1 tv901 h = some h0) : Met l yJ7_fill_53178 (Cond.code yJ7_fill_53178 cJ7_fill_53178 4 none :: tr_T) r_J7_fill_53178 (va_Pc [.ref (tr_ad w tn1), .int tv901] (tr_Wo tr_X w h)) (tr_Qv tr_X w h0) 0 0 (tr_R tr_X w) := by
  refine tr_start (by decide) (Nat.le_refl _) ?_
  intro p e s m args below meth c C hr hlocks hargs hP
  have hx := C.1
  have hb := C.2.1
  have hS : va_S (tr_R tr_X w) s.heap s.heap [] := va_S.rf
  have hl := lv_entry ([.ref (tr_ad w tn1), .int tv901]) (n := 4) (Nat.le_of_ble_eq_true rfl)
  rw [lg_entry_eq]
  generalize (lg_sl ([.ref (tr_ad w tn1), .int tv901]) ++ List.replicate (4 - (lg_sl ([.ref (tr_ad w tn1), .int tv901])).length) Slot.unset).toArray = ls at hl ⊢
  have hl : lv_has ls 4 [(0, .ref (tr_ad w tn1)), (1, .int tv901)] := hl
  replace hk : tr_ok (f_J7_fill_53178 tn1 tj1 tv901 h) (fun o => o = h0) := ⟨_, hk, rfl⟩
  unfold f_J7_fill_53178 at hk
  refine lv_iconst (v := 0) hx hb dJ7_fill_53178_0 (by decide) ?_
  refine lv_istore_n (lv' := [(2, .int 0), (0, .ref (tr_ad w tn1)), (1, .int tv901)]) hx hb dJ7_fill_53178_1 rfl hl (by decide) rfl (fun ls hl => ?_)
  refine lv_aload_n hx hb dJ7_fill_53178_2 rfl (lv_at hl 1 rfl) ?_
  refine tr_alen (v := Int32.ofNat tj1) C hP htn1 rfl dJ7_fill_53178_3 ?_
  refine tr_ti hk (fun tv1 hk => ?_)
  refine lv_istore_n (lv' := [(3, .int tv1), (2, .int 0), (0, .ref (tr_ad w tn1)), (1, .int tv901)]) hx hb dJ7_fill_53178_4 rfl hl (by decide) rfl (fun ls hl => ?_)
  have j20_5 : ∀ (th2 : tr_H), tr_ok (f_J7_fill_53178_E20 th2) (fun o => o = h0) → tr_Wd p l e r_J7_fill_53178 s m args below meth c (MQ below (tr_Qv tr_X w h0) args s 0 0 (tr_R tr_X w)) tr_X w 4 20 [] [] th2 := by
    intro th2 hk H locs ls hP hS hl
    unfold f_J7_fill_53178_E20 at hk
    exact tr_vret C hP hS hr hlocks (tr_okS (P := (fun o => o = h0)) hk) dJ7_fill_53178_20
  refine tr_loop (fun q => tr_Wd p l e r_J7_fill_53178 s m args below meth c (MQ below (tr_Qv tr_X w h0) args s 0 0 (tr_R tr_X w)) tr_X w 4 5 [(0, .ref (tr_ad w tn1)), (1, .int tv901), (2, .int q.1), (3, .int tv1)] [] q.2) hk ?_ _ _ _ hP hS (lv_sub hl [2, 3, 1, 0] rfl)
  intro P5 hin5 hex5 q hk
  obtain ⟨tv3, th4⟩ := q
  intro H locs ls hP hS hl
  replace hk : tr_ok (f_J7_fill_53178_L5 tv1 tj1 tn1 tv901 tv3 th4) P5 := hk
  unfold f_J7_fill_53178_L5 at hk
  refine lv_iload_n hx hb dJ7_fill_53178_5 rfl (lv_at hl 2 rfl) ?_
  refine lv_iload_n hx hb dJ7_fill_53178_6 rfl (lv_at hl 3 rfl) ?_
  refine lv_icmp_ge (tgt := 20) hx hb dJ7_fill_53178_7 (by decide) (fun tc5 => ?_) (fun tc5 => ?_)
  · replace hk := tr_ift hk tc5
    replace hk : tr_ok (f_J7_fill_53178_E20 th4) (fun o => o = h0) := hex5 _ (tr_okS hk)
    exact j20_5 th4 hk _ _ _ hP hS (lv_sub hl [] rfl)
  · replace hk := tr_iff hk tc5
    refine lv_aload_n hx hb dJ7_fill_53178_10 rfl (lv_at hl 0 rfl) ?_
    refine lv_iload_n hx hb dJ7_fill_53178_11 rfl (lv_at hl 2 rfl) ?_
    refine lv_iload_n hx hb dJ7_fill_53178_12 rfl (lv_at hl 1 rfl) ?_
    obtain ⟨tg6, hk⟩ := tr_okg hk
    refine tr_ias C hP hS htn1 tg6 dJ7_fill_53178_13 (fun H locs hP hS => ?_)
    refine tr_th hk hP (fun th7 hk hP => ?_)
    obtain ⟨tv8, etv8, hk⟩ := tr_okd hk
    refine lv_iinc (v := tv8) (lv' := [(2, .int tv8), (0, .ref (tr_ad w tn1)), (1, .int tv901), (3, .int tv1)]) hx hb dJ7_fill_53178_14 hl (k := 2) rfl (by rw [etv8]; rfl) (by decide) rfl (fun ls hl => ?_)
    refine lv_goto (tgt := 5) hx hb dJ7_fill_53178_17 (by decide) ?_
    exact hin5 _ (tr_okS hk) _ _ _ hP hS (lv_sub hl [1, 2, 0, 3] rfl)
noncomputable def f_X2_has (tn0 : Nat) (tv900 : Int32) (h : tr_H) : Option Int32 :=
  if tv900 < 0 then
  (some 0)
  else
  (if (h.1 tn0 1) ≤ tv900 then
  (some 0)
  else
  (some 1))
abbrev r_X2_has : Room := { frames := 0, cells := 0, slots := 0, locals := 0 }
set_option maxHeartbeats 4000000 in
set_option maxRecDepth 100000 in
theorem c_X2_has (l : Launch) (w : tr_E) (tn0 : Nat) (htn0 : tr_net tn0) (tv900 : Int32) (h : tr_H) (r0 : Int32) (hk : f_X2_has tn0 tv900 h = some r0) : Met l yX2_has (Cond.code yX2_has cX2_has 2 (some .boolean) :: tr_T) r_X2_has (va_Pc [.ref (tr_ad w tn0), .int tv900] (tr_Wo tr_X w h)) (tr_Qi tr_X w r0 h) 0 0 (tr_R tr_X w) := by
  refine tr_start (by decide) (Nat.le_refl _) ?_
  intro p e s m args below meth c C hr hlocks hargs hP
  have hx := C.1
  have hb := C.2.1
  have hS : va_S (tr_R tr_X w) s.heap s.heap [] := va_S.rf
  have hl := lv_entry ([.ref (tr_ad w tn0), .int tv900]) (n := 2) (Nat.le_of_ble_eq_true rfl)
  rw [lg_entry_eq]
  generalize (lg_sl ([.ref (tr_ad w tn0), .int tv900]) ++ List.replicate (2 - (lg_sl ([.ref (tr_ad w tn0), .int tv900])).length) Slot.unset).toArray = ls at hl ⊢
  have hl : lv_has ls 2 [(0, .ref (tr_ad w tn0)), (1, .int tv900)] := hl
  replace hk : tr_ok (f_X2_has tn0 tv900 h) (fun o => o = r0) := ⟨_, hk, rfl⟩
  unfold f_X2_has at hk
  refine lv_iload_n hx hb dX2_has_0 rfl (lv_at hl 1 rfl) ?_
  refine lv_if_lt (tgt := 16) hx hb dX2_has_1 (by decide) (fun tc1 => ?_) (fun tc1 => ?_)
  · replace hk := tr_ift hk tc1
    refine lv_iconst (v := 0) hx hb dX2_has_16 (by decide) ?_
    exact tr_zret C hP hS hr hlocks rfl (congrArg (fun x => (x, h)) (tr_okS (P := (fun o => o = r0)) hk)) dX2_has_17
  · replace hk := tr_iff hk tc1
    refine lv_iload_n hx hb dX2_has_4 rfl (lv_at hl 1 rfl) ?_
    refine lv_aload_n hx hb dX2_has_5 rfl (lv_at hl 0 rfl) ?_
    refine gf_X2_15 htn0 C hP dX2_has_6 ?_
    refine lv_icmp_ge (tgt := 16) hx hb dX2_has_9 (by decide) (fun tc2 => ?_) (fun tc2 => ?_)
    · replace hk := tr_ift hk tc2
      refine lv_iconst (v := 0) hx hb dX2_has_16 (by decide) ?_
      exact tr_zret C hP hS hr hlocks rfl (congrArg (fun x => (x, h)) (tr_okS (P := (fun o => o = r0)) hk)) dX2_has_17
    · replace hk := tr_iff hk tc2
      refine lv_iconst (v := 1) hx hb dX2_has_12 (by decide) ?_
      refine lv_goto (tgt := 17) hx hb dX2_has_13 (by decide) ?_
      exact tr_zret C hP hS hr hlocks rfl (congrArg (fun x => (x, h)) (tr_okS (P := (fun o => o = r0)) hk)) dX2_has_17
noncomputable def f_X2_of (tn0 : Nat) (tv900 : Int32) (tv901 : Int32) (h : tr_H) : Option Int32 :=
  if tv900 < 0 then
  (some (-9))
  else
  (if (h.1 tn0 1) ≤ tv900 then
  (some (-9))
  else
  (if tv901 < 0 then
  (some (-9))
  else
  (if tv901 < (h.1 tn0 1) then
  (tr_bd ((tv900 * 6) + tv901) fun tv5 =>
  tr_gd tv5 36 <|
  some (h.1 (tn0 + 1) tv5.toNatClampNeg))
  else
  (some (-9)))))
abbrev r_X2_of : Room := { frames := 0, cells := 0, slots := 0, locals := 0 }
set_option maxHeartbeats 4000000 in
set_option maxRecDepth 100000 in
theorem c_X2_of (l : Launch) (w : tr_E) (tn0 : Nat) (htn0 : tr_net tn0) (tv900 : Int32) (tv901 : Int32) (h : tr_H) (r0 : Int32) (hk : f_X2_of tn0 tv900 tv901 h = some r0) : Met l yX2_of (Cond.code yX2_of cX2_of 3 (some .int) :: tr_T) r_X2_of (va_Pc [.ref (tr_ad w tn0), .int tv900, .int tv901] (tr_Wo tr_X w h)) (tr_Qi tr_X w r0 h) 0 0 (tr_R tr_X w) := by
  refine tr_start (by decide) (Nat.le_refl _) ?_
  intro p e s m args below meth c C hr hlocks hargs hP
  have hx := C.1
  have hb := C.2.1
  have hS : va_S (tr_R tr_X w) s.heap s.heap [] := va_S.rf
  have hl := lv_entry ([.ref (tr_ad w tn0), .int tv900, .int tv901]) (n := 3) (Nat.le_of_ble_eq_true rfl)
  rw [lg_entry_eq]
  generalize (lg_sl ([.ref (tr_ad w tn0), .int tv900, .int tv901]) ++ List.replicate (3 - (lg_sl ([.ref (tr_ad w tn0), .int tv900, .int tv901])).length) Slot.unset).toArray = ls at hl ⊢
  have hl : lv_has ls 3 [(0, .ref (tr_ad w tn0)), (1, .int tv900), (2, .int tv901)] := hl
  replace hk : tr_ok (f_X2_of tn0 tv900 tv901 h) (fun o => o = r0) := ⟨_, hk, rfl⟩
  unfold f_X2_of at hk
  refine lv_iload_n hx hb dX2_of_0 rfl (lv_at hl 1 rfl) ?_
  refine lv_if_lt (tgt := 24) hx hb dX2_of_1 (by decide) (fun tc1 => ?_) (fun tc1 => ?_)
  · replace hk := tr_ift hk tc1
    refine lv_bipush (v := (-9)) hx hb dX2_of_24 (by decide) ?_
    exact tr_iret C hP hS hr hlocks (congrArg (fun x => (x, h)) (tr_okS (P := (fun o => o = r0)) hk)) dX2_of_26
  · replace hk := tr_iff hk tc1
    refine lv_iload_n hx hb dX2_of_4 rfl (lv_at hl 1 rfl) ?_
    refine lv_aload_n hx hb dX2_of_5 rfl (lv_at hl 0 rfl) ?_
    refine gf_X2_15 htn0 C hP dX2_of_6 ?_
    refine lv_icmp_ge (tgt := 24) hx hb dX2_of_9 (by decide) (fun tc2 => ?_) (fun tc2 => ?_)
    · replace hk := tr_ift hk tc2
      refine lv_bipush (v := (-9)) hx hb dX2_of_24 (by decide) ?_
      exact tr_iret C hP hS hr hlocks (congrArg (fun x => (x, h)) (tr_okS (P := (fun o => o = r0)) hk)) dX2_of_26
    · replace hk := tr_iff hk tc2
      refine lv_iload_n hx hb dX2_of_12 rfl (lv_at hl 2 rfl) ?_
      refine lv_if_lt (tgt := 24) hx hb dX2_of_13 (by decide) (fun tc3 => ?_) (fun tc3 => ?_)
      · replace hk := tr_ift hk tc3
        refine lv_bipush (v := (-9)) hx hb dX2_of_24 (by decide) ?_
        exact tr_iret C hP hS hr hlocks (congrArg (fun x => (x, h)) (tr_okS (P := (fun o => o = r0)) hk)) dX2_of_26
      · replace hk := tr_iff hk tc3
        refine lv_iload_n hx hb dX2_of_16 rfl (lv_at hl 2 rfl) ?_
        refine lv_aload_n hx hb dX2_of_17 rfl (lv_at hl 0 rfl) ?_
        refine gf_X2_15 htn0 C hP dX2_of_18 ?_
        refine lv_icmp_lt (tgt := 27) hx hb dX2_of_21 (by decide) (fun tc4 => ?_) (fun tc4 => ?_)
        · replace hk := tr_ift hk tc4
          refine lv_aload_n hx hb dX2_of_27 rfl (lv_at hl 0 rfl) ?_
          refine gf_X2_9 htn0 C hP dX2_of_28 ?_
          refine lv_iload_n hx hb dX2_of_31 rfl (lv_at hl 1 rfl) ?_
          refine lv_bipush (v := 6) hx hb dX2_of_32 (by decide) ?_
          refine lv_imul hx hb dX2_of_34 ?_
          refine lv_iload_n hx hb dX2_of_35 rfl (lv_at hl 2 rfl) ?_
          refine lv_iadd hx hb dX2_of_36 ?_
          refine tr_ti hk (fun tv5 hk => ?_)
          obtain ⟨tg6, hk⟩ := tr_okg hk
          refine tr_ial C hP (tr_net_ar htn0 w) tg6 dX2_of_37 ?_
          exact tr_iret C hP hS hr hlocks (congrArg (fun x => (x, h)) (tr_okS (P := (fun o => o = r0)) hk)) dX2_of_38
        · replace hk := tr_iff hk tc4
          refine lv_bipush (v := (-9)) hx hb dX2_of_24 (by decide) ?_
          exact tr_iret C hP hS hr hlocks (congrArg (fun x => (x, h)) (tr_okS (P := (fun o => o = r0)) hk)) dX2_of_26
noncomputable def f_X2_lay (tn0 : Nat) (tv900 : Int32) (tv901 : Int32) (tv902 : Int32) (h : tr_H) : Option (Int32 × tr_H) :=
  tr_bn (f_X2_has tn0 tv900 h) fun tv2 =>
  if tv2 = 0 then
  (some (0, h))
  else
  (tr_bn (f_X2_has tn0 tv901 h) fun tv5 =>
  if tv5 = 0 then
  (some (0, h))
  else
  (tr_bd ((tv900 * 6) + tv901) fun tv7 =>
  tr_gd tv7 36 <|
  tr_bd (tr_si h (tn0 + 1) tv7.toNatClampNeg tv902) fun th9 =>
  some (1, th9)))
abbrev r_X2_lay : Room := { frames := 1, cells := 0, slots := 0, locals := 21 }
set_option maxHeartbeats 4000000 in
set_option maxRecDepth 100000 in
theorem c_X2_lay (l : Launch) (w : tr_E) (tn0 : Nat) (htn0 : tr_net tn0) (tv900 : Int32) (tv901 : Int32) (tv902 : Int32) (h : tr_H) (r0 : Int32) (h0 : tr_H) (hk : f_X2_lay tn0 tv900 tv901 tv902 h = some (r0, h0)) : Met l yX2_lay (Cond.code yX2_lay cX2_lay 4 (some .boolean) :: tr_T) r_X2_lay (va_Pc [.ref (tr_ad w tn0), .int tv900, .int tv901, .int tv902] (tr_Wo tr_X w h)) (tr_Qi tr_X w r0 h0) 0 0 (tr_R tr_X w) := by
  refine tr_start (by decide) (Nat.le_refl _) ?_
  intro p e s m args below meth c C hr hlocks hargs hP
  have hx := C.1
  have hb := C.2.1
  have hS : va_S (tr_R tr_X w) s.heap s.heap [] := va_S.rf
  have hl := lv_entry ([.ref (tr_ad w tn0), .int tv900, .int tv901, .int tv902]) (n := 4) (Nat.le_of_ble_eq_true rfl)
  rw [lg_entry_eq]
  generalize (lg_sl ([.ref (tr_ad w tn0), .int tv900, .int tv901, .int tv902]) ++ List.replicate (4 - (lg_sl ([.ref (tr_ad w tn0), .int tv900, .int tv901, .int tv902])).length) Slot.unset).toArray = ls at hl ⊢
  have hl : lv_has ls 4 [(0, .ref (tr_ad w tn0)), (1, .int tv900), (2, .int tv901), (3, .int tv902)] := hl
  replace hk : tr_ok (f_X2_lay tn0 tv900 tv901 tv902 h) (fun o => o = (r0, h0)) := ⟨_, hk, rfl⟩
  unfold f_X2_lay at hk
  refine lv_aload_n hx hb dX2_lay_0 rfl (lv_at hl 0 rfl) ?_
  refine lv_iload_n hx hb dX2_lay_1 rfl (lv_at hl 1 rfl) ?_
  obtain ⟨tv2, tq1, hk⟩ := tr_okb hk
  refine tr_cvi (As := [.int tv900]) (rest := []) C hP hS hl (c_X2_has l w tn0 htn0 tv900 h tv2 tq1) mz_X2_has ml_X2_25 (tr_net_lt htn0) (tr_net_cx htn0 _ _ _ _) rfl rfl rfl ⟨Nat.le_of_ble_eq_true rfl, Nat.le_of_ble_eq_true rfl⟩ rfl rfl (Nat.le_of_ble_eq_true rfl) ⟨Nat.le_refl _, Nat.le_refl _⟩ dX2_lay_2 (fun H locs hP hS => ?_)
  refine lv_if_eq (tgt := 16) hx hb dX2_lay_5 (by decide) (fun tc3 => ?_) (fun tc3 => ?_)
  · replace hk := tr_ift hk tc3
    refine lv_iconst (v := 0) hx hb dX2_lay_16 (by decide) ?_
    exact tr_zret C hP hS hr hlocks rfl (tr_okS (P := (fun o => o = (r0, h0))) hk) dX2_lay_17
  · replace hk := tr_iff hk tc3
    refine lv_aload_n hx hb dX2_lay_8 rfl (lv_at hl 0 rfl) ?_
    refine lv_iload_n hx hb dX2_lay_9 rfl (lv_at hl 2 rfl) ?_
    obtain ⟨tv5, tq4, hk⟩ := tr_okb hk
    refine tr_cvi (As := [.int tv901]) (rest := []) C hP hS hl (c_X2_has l w tn0 htn0 tv901 h tv5 tq4) mz_X2_has ml_X2_25 (tr_net_lt htn0) (tr_net_cx htn0 _ _ _ _) rfl rfl rfl ⟨Nat.le_of_ble_eq_true rfl, Nat.le_of_ble_eq_true rfl⟩ rfl rfl (Nat.le_of_ble_eq_true rfl) ⟨Nat.le_refl _, Nat.le_refl _⟩ dX2_lay_10 (fun H locs hP hS => ?_)
    refine lv_if_ne (tgt := 18) hx hb dX2_lay_13 (by decide) (fun tc6 => ?_) (fun tc6 => ?_)
    · replace hk := tr_iff hk tc6
      refine lv_aload_n hx hb dX2_lay_18 rfl (lv_at hl 0 rfl) ?_
      refine gf_X2_9 htn0 C hP dX2_lay_19 ?_
      refine lv_iload_n hx hb dX2_lay_22 rfl (lv_at hl 1 rfl) ?_
      refine lv_bipush (v := 6) hx hb dX2_lay_23 (by decide) ?_
      refine lv_imul hx hb dX2_lay_25 ?_
      refine lv_iload_n hx hb dX2_lay_26 rfl (lv_at hl 2 rfl) ?_
      refine lv_iadd hx hb dX2_lay_27 ?_
      refine lv_iload_n hx hb dX2_lay_28 rfl (lv_at hl 3 rfl) ?_
      obtain ⟨tv7, etv7, hk⟩ := tr_okd hk
      rw [← etv7]
      obtain ⟨tg8, hk⟩ := tr_okg hk
      refine tr_ias C hP hS (tr_net_ar htn0 w) tg8 dX2_lay_29 (fun H locs hP hS => ?_)
      refine tr_th hk hP (fun th9 hk hP => ?_)
      refine lv_iconst (v := 1) hx hb dX2_lay_30 (by decide) ?_
      exact tr_zret C hP hS hr hlocks rfl (tr_okS (P := (fun o => o = (r0, h0))) hk) dX2_lay_31
    · replace hk := tr_ift hk tc6
      refine lv_iconst (v := 0) hx hb dX2_lay_16 (by decide) ?_
      exact tr_zret C hP hS hr hlocks rfl (tr_okS (P := (fun o => o = (r0, h0))) hk) dX2_lay_17
noncomputable def f_X2_leadsToAll_E29 : Option Int32 :=
  some 1
noncomputable def f_X2_leadsToAll_L2 (h : tr_H) (tn0 : Nat) (tv900 : Int32) (tv1 : Int32) : Option (Int32 ⊕ (Unit ⊕ Int32)) :=
  if (h.1 tn0 1) ≤ tv1 then
  (some (.inr (.inl ())))
  else
  (tr_bn (f_X2_of tn0 tv900 tv1 h) fun tv4 =>
  if tv4 = (-9) then
  (some (.inr (.inr 0)))
  else
  (tr_bd (tv1 + 1) fun tv6 =>
  some (.inl tv6)))
noncomputable def f_X2_leadsToAll (tn0 : Nat) (tv900 : Int32) (h : tr_H) : Option Int32 :=
  tr_bn (tr_lp (fun q => f_X2_leadsToAll_L2 h tn0 tv900 q) 0) (fun q => Sum.elim (fun _ => f_X2_leadsToAll_E29) (fun x => some x) q)
abbrev r_X2_leadsToAll : Room := { frames := 1, cells := 0, slots := 0, locals := 22 }
set_option maxHeartbeats 4000000 in
set_option maxRecDepth 100000 in
theorem c_X2_leadsToAll (l : Launch) (w : tr_E) (tn0 : Nat) (htn0 : tr_net tn0) (tv900 : Int32) (h : tr_H) (r0 : Int32) (hk : f_X2_leadsToAll tn0 tv900 h = some r0) : Met l yX2_leadsToAll (Cond.code yX2_leadsToAll cX2_leadsToAll 3 (some .boolean) :: tr_T) r_X2_leadsToAll (va_Pc [.ref (tr_ad w tn0), .int tv900] (tr_Wo tr_X w h)) (tr_Qi tr_X w r0 h) 0 0 (tr_R tr_X w) := by
  refine tr_start (by decide) (Nat.le_refl _) ?_
  intro p e s m args below meth c C hr hlocks hargs hP
  have hx := C.1
  have hb := C.2.1
  have hS : va_S (tr_R tr_X w) s.heap s.heap [] := va_S.rf
  have hl := lv_entry ([.ref (tr_ad w tn0), .int tv900]) (n := 3) (Nat.le_of_ble_eq_true rfl)
  rw [lg_entry_eq]
  generalize (lg_sl ([.ref (tr_ad w tn0), .int tv900]) ++ List.replicate (3 - (lg_sl ([.ref (tr_ad w tn0), .int tv900])).length) Slot.unset).toArray = ls at hl ⊢
  have hl : lv_has ls 3 [(0, .ref (tr_ad w tn0)), (1, .int tv900)] := hl
  replace hk : tr_ok (f_X2_leadsToAll tn0 tv900 h) (fun o => o = r0) := ⟨_, hk, rfl⟩
  unfold f_X2_leadsToAll at hk
  refine lv_iconst (v := 0) hx hb dX2_leadsToAll_0 (by decide) ?_
  refine lv_istore_n (lv' := [(2, .int 0), (0, .ref (tr_ad w tn0)), (1, .int tv900)]) hx hb dX2_leadsToAll_1 rfl hl (by decide) rfl (fun ls hl => ?_)
  have j29_2 : tr_ok (f_X2_leadsToAll_E29) (fun o => o = r0) → tr_Wd p l e r_X2_leadsToAll s m args below meth c (MQ below (tr_Qi tr_X w r0 h) args s 0 0 (tr_R tr_X w)) tr_X w 3 29 [] [] h := by
    intro  hk H locs ls hP hS hl
    unfold f_X2_leadsToAll_E29 at hk
    refine lv_iconst (v := 1) hx hb dX2_leadsToAll_29 (by decide) ?_
    exact tr_zret C hP hS hr hlocks rfl (congrArg (fun x => (x, h)) (tr_okS (P := (fun o => o = r0)) hk)) dX2_leadsToAll_30
  refine tr_loop (fun q => tr_Wd p l e r_X2_leadsToAll s m args below meth c (MQ below (tr_Qi tr_X w r0 h) args s 0 0 (tr_R tr_X w)) tr_X w 3 2 [(0, .ref (tr_ad w tn0)), (1, .int tv900), (2, .int q)] [] h) hk ?_ _ _ _ hP hS (lv_sub hl [1, 2, 0] rfl)
  intro P2 hin2 hex2 q hk
  generalize q = tv1 at hk ⊢
  intro H locs ls hP hS hl
  replace hk : tr_ok (f_X2_leadsToAll_L2 h tn0 tv900 tv1) P2 := hk
  unfold f_X2_leadsToAll_L2 at hk
  refine lv_iload_n hx hb dX2_leadsToAll_2 rfl (lv_at hl 2 rfl) ?_
  refine lv_aload_n hx hb dX2_leadsToAll_3 rfl (lv_at hl 0 rfl) ?_
  refine gf_X2_15 htn0 C hP dX2_leadsToAll_4 ?_
  refine lv_icmp_ge (tgt := 29) hx hb dX2_leadsToAll_7 (by decide) (fun tc2 => ?_) (fun tc2 => ?_)
  · replace hk := tr_ift hk tc2
    replace hk : tr_ok (f_X2_leadsToAll_E29) (fun o => o = r0) := hex2 _ (tr_okS hk)
    exact j29_2 hk _ _ _ hP hS (lv_sub hl [] rfl)
  · replace hk := tr_iff hk tc2
    refine lv_aload_n hx hb dX2_leadsToAll_10 rfl (lv_at hl 0 rfl) ?_
    refine lv_iload_n hx hb dX2_leadsToAll_11 rfl (lv_at hl 1 rfl) ?_
    refine lv_iload_n hx hb dX2_leadsToAll_12 rfl (lv_at hl 2 rfl) ?_
    obtain ⟨tv4, tq3, hk⟩ := tr_okb hk
    refine tr_cvi (As := [.int tv900, .int tv1]) (rest := []) C hP hS hl (c_X2_of l w tn0 htn0 tv900 tv1 h tv4 tq3) mz_X2_of ml_X2_29 (tr_net_lt htn0) (tr_net_cx htn0 _ _ _ _) rfl rfl rfl ⟨Nat.le_of_ble_eq_true rfl, Nat.le_of_ble_eq_true rfl⟩ rfl rfl (Nat.le_of_ble_eq_true rfl) ⟨Nat.le_refl _, Nat.le_refl _⟩ dX2_leadsToAll_13 (fun H locs hP hS => ?_)
    refine lv_bipush (v := (-9)) hx hb dX2_leadsToAll_16 (by decide) ?_
    refine lv_icmp_ne (tgt := 23) hx hb dX2_leadsToAll_18 (by decide) (fun tc5 => ?_) (fun tc5 => ?_)
    · replace hk := tr_iff hk tc5
      obtain ⟨tv6, etv6, hk⟩ := tr_okd hk
      refine lv_iinc (v := tv6) (lv' := [(2, .int tv6), (0, .ref (tr_ad w tn0)), (1, .int tv900)]) hx hb dX2_leadsToAll_23 hl (k := 2) rfl (by rw [etv6]; rfl) (by decide) rfl (fun ls hl => ?_)
      refine lv_goto (tgt := 2) hx hb dX2_leadsToAll_26 (by decide) ?_
      exact hin2 _ (tr_okS hk) _ _ _ hP hS (lv_sub hl [1, 2, 0] rfl)
    · replace hk := tr_ift hk tc5
      refine lv_iconst (v := 0) hx hb dX2_leadsToAll_21 (by decide) ?_
      replace hk : tr_ok (some 0) (fun o => o = r0) := hex2 _ (tr_okS hk)
      exact tr_zret C hP hS hr hlocks rfl (congrArg (fun x => (x, h)) (tr_okS (P := (fun o => o = r0)) hk)) dX2_leadsToAll_22
noncomputable def f_X2_waits_E30 (tv1 : Int32) : Option Int32 :=
  some tv1
noncomputable def f_X2_waits_L4 (h : tr_H) (tn0 : Nat) (tv2 : Int32) (tv3 : Int32) : Option ((Int32 × Int32) ⊕ Int32) :=
  if 36 ≤ tv3 then
  (some (.inr tv2))
  else
  (tr_gd tv3 36 <|
  if (h.1 (tn0 + 1) tv3.toNatClampNeg) = (-9) then
  (tr_bd (tv3 + 1) fun tv7 =>
  some (.inl (tv2, tv7)))
  else
  (tr_bd (tv2 + 1) fun tv8 =>
  tr_bd (tv3 + 1) fun tv9 =>
  some (.inl (tv8, tv9))))
noncomputable def f_X2_waits (tn0 : Nat) (h : tr_H) : Option Int32 :=
  tr_bn (tr_lp (fun q => f_X2_waits_L4 h tn0 q.1 q.2) (0, 0)) (fun q => f_X2_waits_E30 q)
abbrev r_X2_waits : Room := { frames := 0, cells := 0, slots := 0, locals := 0 }
set_option maxHeartbeats 4000000 in
set_option maxRecDepth 100000 in
theorem c_X2_waits (l : Launch) (w : tr_E) (tn0 : Nat) (htn0 : tr_net tn0) (h : tr_H) (r0 : Int32) (hk : f_X2_waits tn0 h = some r0) : Met l yX2_waits (Cond.code yX2_waits cX2_waits 3 (some .int) :: tr_T) r_X2_waits (va_Pc [.ref (tr_ad w tn0)] (tr_Wo tr_X w h)) (tr_Qi tr_X w r0 h) 0 0 (tr_R tr_X w) := by
  refine tr_start (by decide) (Nat.le_refl _) ?_
  intro p e s m args below meth c C hr hlocks hargs hP
  have hx := C.1
  have hb := C.2.1
  have hS : va_S (tr_R tr_X w) s.heap s.heap [] := va_S.rf
  have hl := lv_entry ([.ref (tr_ad w tn0)]) (n := 3) (Nat.le_of_ble_eq_true rfl)
  rw [lg_entry_eq]
  generalize (lg_sl ([.ref (tr_ad w tn0)]) ++ List.replicate (3 - (lg_sl ([.ref (tr_ad w tn0)])).length) Slot.unset).toArray = ls at hl ⊢
  have hl : lv_has ls 3 [(0, .ref (tr_ad w tn0))] := hl
  replace hk : tr_ok (f_X2_waits tn0 h) (fun o => o = r0) := ⟨_, hk, rfl⟩
  unfold f_X2_waits at hk
  refine lv_iconst (v := 0) hx hb dX2_waits_0 (by decide) ?_
  refine lv_istore_n (lv' := [(1, .int 0), (0, .ref (tr_ad w tn0))]) hx hb dX2_waits_1 rfl hl (by decide) rfl (fun ls hl => ?_)
  refine lv_iconst (v := 0) hx hb dX2_waits_2 (by decide) ?_
  refine lv_istore_n (lv' := [(2, .int 0), (1, .int 0), (0, .ref (tr_ad w tn0))]) hx hb dX2_waits_3 rfl hl (by decide) rfl (fun ls hl => ?_)
  have j30_4 : ∀ (tv1 : Int32), tr_ok (f_X2_waits_E30 tv1) (fun o => o = r0) → tr_Wd p l e r_X2_waits s m args below meth c (MQ below (tr_Qi tr_X w r0 h) args s 0 0 (tr_R tr_X w)) tr_X w 3 30 [(1, .int tv1)] [] h := by
    intro tv1 hk H locs ls hP hS hl
    unfold f_X2_waits_E30 at hk
    refine lv_iload_n hx hb dX2_waits_30 rfl (lv_at hl 0 rfl) ?_
    exact tr_iret C hP hS hr hlocks (congrArg (fun x => (x, h)) (tr_okS (P := (fun o => o = r0)) hk)) dX2_waits_31
  refine tr_loop (fun q => tr_Wd p l e r_X2_waits s m args below meth c (MQ below (tr_Qi tr_X w r0 h) args s 0 0 (tr_R tr_X w)) tr_X w 3 4 [(0, .ref (tr_ad w tn0)), (1, .int q.1), (2, .int q.2)] [] h) hk ?_ _ _ _ hP hS (lv_sub hl [2, 1, 0] rfl)
  intro P4 hin4 hex4 q hk
  obtain ⟨tv2, tv3⟩ := q
  intro H locs ls hP hS hl
  replace hk : tr_ok (f_X2_waits_L4 h tn0 tv2 tv3) P4 := hk
  unfold f_X2_waits_L4 at hk
  refine lv_iload_n hx hb dX2_waits_4 rfl (lv_at hl 2 rfl) ?_
  refine lv_bipush (v := 36) hx hb dX2_waits_5 (by decide) ?_
  refine lv_icmp_ge (tgt := 30) hx hb dX2_waits_7 (by decide) (fun tc4 => ?_) (fun tc4 => ?_)
  · replace hk := tr_ift hk tc4
    replace hk : tr_ok (f_X2_waits_E30 tv2) (fun o => o = r0) := hex4 _ (tr_okS hk)
    exact j30_4 tv2 hk _ _ _ hP hS (lv_sub hl [1] rfl)
  · replace hk := tr_iff hk tc4
    refine lv_aload_n hx hb dX2_waits_10 rfl (lv_at hl 0 rfl) ?_
    refine gf_X2_9 htn0 C hP dX2_waits_11 ?_
    refine lv_iload_n hx hb dX2_waits_14 rfl (lv_at hl 2 rfl) ?_
    obtain ⟨tg5, hk⟩ := tr_okg hk
    refine tr_ial C hP (tr_net_ar htn0 w) tg5 dX2_waits_15 ?_
    refine lv_bipush (v := (-9)) hx hb dX2_waits_16 (by decide) ?_
    refine lv_icmp_eq (tgt := 24) hx hb dX2_waits_18 (by decide) (fun tc6 => ?_) (fun tc6 => ?_)
    · replace hk := tr_ift hk tc6
      obtain ⟨tv7, etv7, hk⟩ := tr_okd hk
      refine lv_iinc (v := tv7) (lv' := [(2, .int tv7), (0, .ref (tr_ad w tn0)), (1, .int tv2)]) hx hb dX2_waits_24 hl (k := 2) rfl (by rw [etv7]; rfl) (by decide) rfl (fun ls hl => ?_)
      refine lv_goto (tgt := 4) hx hb dX2_waits_27 (by decide) ?_
      exact hin4 _ (tr_okS hk) _ _ _ hP hS (lv_sub hl [1, 2, 0] rfl)
    · replace hk := tr_iff hk tc6
      obtain ⟨tv8, etv8, hk⟩ := tr_okd hk
      refine lv_iinc (v := tv8) (lv' := [(1, .int tv8), (0, .ref (tr_ad w tn0)), (2, .int tv3)]) hx hb dX2_waits_21 hl (k := 1) rfl (by rw [etv8]; rfl) (by decide) rfl (fun ls hl => ?_)
      obtain ⟨tv9, etv9, hk⟩ := tr_okd hk
      refine lv_iinc (v := tv9) (lv' := [(2, .int tv9), (1, .int tv8), (0, .ref (tr_ad w tn0))]) hx hb dX2_waits_24 hl (k := 2) rfl (by rw [etv9]; rfl) (by decide) rfl (fun ls hl => ?_)
      refine lv_goto (tgt := 4) hx hb dX2_waits_27 (by decide) ?_
      exact hin4 _ (tr_okS hk) _ _ _ hP hS (lv_sub hl [2, 1, 0] rfl)
noncomputable def f_X2_begin (tn0 : Nat) (tv900 : Int32) (h : tr_H) : Option tr_H :=
  tr_bd (tr_si h tn0 1 (tr_max 1 (tr_min 6 tv900))) fun th1 =>
  tr_bn (f_J7_fill_53178 (tn0 + 1) 36 (-9) th1) fun th3 =>
  some th3
abbrev r_X2_begin : Room := { frames := 1, cells := 0, slots := 0, locals := 23 }
set_option maxHeartbeats 4000000 in
set_option maxRecDepth 100000 in
theorem c_X2_begin (l : Launch) (w : tr_E) (tn0 : Nat) (htn0 : tr_net tn0) (tv900 : Int32) (h : tr_H) (h0 : tr_H) (hk : f_X2_begin tn0 tv900 h = some h0) : Met l yX2_begin (Cond.code yX2_begin cX2_begin 2 none :: tr_T) r_X2_begin (va_Pc [.ref (tr_ad w tn0), .int tv900] (tr_Wo tr_X w h)) (tr_Qv tr_X w h0) 0 0 (tr_R tr_X w) := by
  refine tr_start (by decide) (Nat.le_refl _) ?_
  intro p e s m args below meth c C hr hlocks hargs hP
  have hx := C.1
  have hb := C.2.1
  have hS : va_S (tr_R tr_X w) s.heap s.heap [] := va_S.rf
  have hl := lv_entry ([.ref (tr_ad w tn0), .int tv900]) (n := 2) (Nat.le_of_ble_eq_true rfl)
  rw [lg_entry_eq]
  generalize (lg_sl ([.ref (tr_ad w tn0), .int tv900]) ++ List.replicate (2 - (lg_sl ([.ref (tr_ad w tn0), .int tv900])).length) Slot.unset).toArray = ls at hl ⊢
  have hl : lv_has ls 2 [(0, .ref (tr_ad w tn0)), (1, .int tv900)] := hl
  replace hk : tr_ok (f_X2_begin tn0 tv900 h) (fun o => o = h0) := ⟨_, hk, rfl⟩
  unfold f_X2_begin at hk
  refine lv_aload_n hx hb dX2_begin_0 rfl (lv_at hl 0 rfl) ?_
  refine lv_iconst (v := 1) hx hb dX2_begin_1 (by decide) ?_
  refine lv_bipush (v := 6) hx hb dX2_begin_2 (by decide) ?_
  refine lv_iload_n hx hb dX2_begin_4 rfl (lv_at hl 1 rfl) ?_
  refine tr_mn C hl ml_X2_33 ⟨Nat.le_of_ble_eq_true rfl, Nat.le_of_ble_eq_true rfl⟩ ⟨Nat.le_refl _, Nat.le_refl _⟩ dX2_begin_5 ?_
  refine tr_mx C hl ml_X2_38 ⟨Nat.le_of_ble_eq_true rfl, Nat.le_of_ble_eq_true rfl⟩ ⟨Nat.le_refl _, Nat.le_refl _⟩ dX2_begin_8 ?_
  refine pf_X2_15 htn0 C hP hS dX2_begin_11 (fun H locs hP hS => ?_)
  refine tr_th hk hP (fun th1 hk hP => ?_)
  refine lv_aload_n hx hb dX2_begin_14 rfl (lv_at hl 0 rfl) ?_
  refine gf_X2_9 htn0 C hP dX2_begin_15 ?_
  refine lv_bipush (v := (-9)) hx hb dX2_begin_18 (by decide) ?_
  obtain ⟨th3, tq2, hk⟩ := tr_okb hk
  refine tr_csv (As := [.ref (tr_ad w (tn0 + 1)), .int (-9)]) (rest := []) C hP hS hl (c_J7_fill_53178 l w (tn0 + 1) 36 (tr_net_ar htn0 w) (-9) th1 th3 tq2) mz_J7_fill_53178 ml_X2_19 rfl rfl ⟨Nat.le_of_ble_eq_true rfl, Nat.le_of_ble_eq_true rfl⟩ rfl rfl (Nat.le_of_ble_eq_true rfl) ⟨Nat.le_refl _, Nat.le_refl _⟩ dX2_begin_20 (fun H locs hP hS => ?_)
  exact tr_vret C hP hS hr hlocks (tr_okS (P := (fun o => o = h0)) hk) dX2_begin_23
noncomputable def f_X2_copyFrom (tn0 : Nat) (tn1 : Nat) (h : tr_H) : Option tr_H :=
  tr_bd (tr_si h tn0 1 (h.1 tn1 1)) fun th1 =>
  tr_bd (tr_cp th1 (tn1 + 1) (tn0 + 1)) fun th2 =>
  some th2
abbrev r_X2_copyFrom : Room := { frames := 1, cells := 0, slots := 0, locals := 26 }
set_option maxHeartbeats 4000000 in
set_option maxRecDepth 100000 in
theorem c_X2_copyFrom (l : Launch) (w : tr_E) (tn0 : Nat) (htn0 : tr_net tn0) (tn1 : Nat) (htn1 : tr_net tn1) (h : tr_H) (h0 : tr_H) (hk : f_X2_copyFrom tn0 tn1 h = some h0) : Met l yX2_copyFrom (Cond.code yX2_copyFrom cX2_copyFrom 2 none :: tr_T) r_X2_copyFrom (va_Pc [.ref (tr_ad w tn0), .ref (tr_ad w tn1)] (tr_Wo tr_X w h)) (tr_Qv tr_X w h0) 0 0 (tr_R tr_X w) := by
  refine tr_start (by decide) (Nat.le_refl _) ?_
  intro p e s m args below meth c C hr hlocks hargs hP
  have hx := C.1
  have hb := C.2.1
  have hS : va_S (tr_R tr_X w) s.heap s.heap [] := va_S.rf
  have hl := lv_entry ([.ref (tr_ad w tn0), .ref (tr_ad w tn1)]) (n := 2) (Nat.le_of_ble_eq_true rfl)
  rw [lg_entry_eq]
  generalize (lg_sl ([.ref (tr_ad w tn0), .ref (tr_ad w tn1)]) ++ List.replicate (2 - (lg_sl ([.ref (tr_ad w tn0), .ref (tr_ad w tn1)])).length) Slot.unset).toArray = ls at hl ⊢
  have hl : lv_has ls 2 [(0, .ref (tr_ad w tn0)), (1, .ref (tr_ad w tn1))] := hl
  replace hk : tr_ok (f_X2_copyFrom tn0 tn1 h) (fun o => o = h0) := ⟨_, hk, rfl⟩
  unfold f_X2_copyFrom at hk
  refine lv_aload_n hx hb dX2_copyFrom_0 rfl (lv_at hl 0 rfl) ?_
  refine lv_aload_n hx hb dX2_copyFrom_1 rfl (lv_at hl 1 rfl) ?_
  refine gf_X2_15 htn1 C hP dX2_copyFrom_2 ?_
  refine pf_X2_15 htn0 C hP hS dX2_copyFrom_5 (fun H locs hP hS => ?_)
  refine tr_th hk hP (fun th1 hk hP => ?_)
  refine lv_aload_n hx hb dX2_copyFrom_8 rfl (lv_at hl 1 rfl) ?_
  refine gf_X2_9 htn1 C hP dX2_copyFrom_9 ?_
  refine lv_iconst (v := 0) hx hb dX2_copyFrom_12 (by decide) ?_
  refine lv_aload_n hx hb dX2_copyFrom_13 rfl (lv_at hl 0 rfl) ?_
  refine gf_X2_9 htn0 C hP dX2_copyFrom_14 ?_
  refine lv_iconst (v := 0) hx hb dX2_copyFrom_17 (by decide) ?_
  refine lv_bipush (v := 36) hx hb dX2_copyFrom_18 (by decide) ?_
  refine tr_acp C hP hS hl (tr_net_ar htn1 w) (tr_net_ar htn0 w) ml_X2_41 ⟨Nat.le_of_ble_eq_true rfl, Nat.le_of_ble_eq_true rfl⟩ dX2_copyFrom_20 (fun H locs hP hS => ?_)
  refine tr_th hk hP (fun th2 hk hP => ?_)
  exact tr_vret C hP hS hr hlocks (tr_okS (P := (fun o => o = h0)) hk) dX2_copyFrom_23
end
