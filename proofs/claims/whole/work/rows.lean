section
-- ===== PART A: goes FIRST, ahead of the names: the tables' words, and 'selects' of the private methods out of them =====
/-- a private method of a class that the tables say can be made, by its rows of tables_1 -/
def lw_okq (q : MethodName × Nat) : Prop := (q.1.cls ≠ "java/lang/invoke/MethodHandle" ∧ q.1.cls ≠ "java/lang/invoke/VarHandle") ∧ Cond.instantiable q.1.cls q.2 ∈ tables_1 ∧ Cond.privateMethod q.1 ∈ tables_1 ∧ Cond.instanceMethod q.1 ∈ tables_1
theorem lw_p0 : lw_okq (⟨"FerryTerminal", "shipNumbered", "(I)LFerryTerminal$Ship;"⟩, 12) := ⟨⟨by decide +kernel, by decide +kernel⟩, List.mem_of_getElem? (i := 10) (by decide +kernel), List.mem_of_getElem? (i := 112) (by decide +kernel), List.mem_of_getElem? (i := 113) (by decide +kernel)⟩
theorem lw_p1 : lw_okq (⟨"FerryTerminal", "liesTooNear", "(LFerryTerminal$Ship;I)Z"⟩, 12) := ⟨⟨by decide +kernel, by decide +kernel⟩, List.mem_of_getElem? (i := 10) (by decide +kernel), List.mem_of_getElem? (i := 138) (by decide +kernel), List.mem_of_getElem? (i := 139) (by decide +kernel)⟩
theorem lw_p2 : lw_okq (⟨"FerryTerminal", "sailingNumbered", "(I)LFerryTerminal$Sailing;"⟩, 12) := ⟨⟨by decide +kernel, by decide +kernel⟩, List.mem_of_getElem? (i := 10) (by decide +kernel), List.mem_of_getElem? (i := 190) (by decide +kernel), List.mem_of_getElem? (i := 191) (by decide +kernel)⟩
theorem lw_p3 : lw_okq (⟨"FerryTerminal$Sailing", "takesTickets", "()Z"⟩, 9) := ⟨⟨by decide +kernel, by decide +kernel⟩, List.mem_of_getElem? (i := 144) (by decide +kernel), List.mem_of_getElem? (i := 194) (by decide +kernel), List.mem_of_getElem? (i := 195) (by decide +kernel)⟩
theorem lw_p4 : lw_okq (⟨"FerryTerminal$Sailing", "isPlannedOrOpen", "()Z"⟩, 9) := ⟨⟨by decide +kernel, by decide +kernel⟩, List.mem_of_getElem? (i := 144) (by decide +kernel), List.mem_of_getElem? (i := 198) (by decide +kernel), List.mem_of_getElem? (i := 199) (by decide +kernel)⟩
theorem lw_p5 : lw_okq (⟨"FerryTerminal", "ticketNumbered", "(I)LFerryTerminal$Ticket;"⟩, 12) := ⟨⟨by decide +kernel, by decide +kernel⟩, List.mem_of_getElem? (i := 10) (by decide +kernel), List.mem_of_getElem? (i := 280) (by decide +kernel), List.mem_of_getElem? (i := 281) (by decide +kernel)⟩
theorem lw_p6 : lw_okq (⟨"FerryTerminal", "hasOpenSailing", "(LFerryTerminal$Ship;)Z"⟩, 12) := ⟨⟨by decide +kernel, by decide +kernel⟩, List.mem_of_getElem? (i := 10) (by decide +kernel), List.mem_of_getElem? (i := 290) (by decide +kernel), List.mem_of_getElem? (i := 291) (by decide +kernel)⟩
theorem lw_p7 : lw_okq (⟨"FerryTerminal", "firstWithTurn", "()LFerryTerminal$Sailing;"⟩, 12) := ⟨⟨by decide +kernel, by decide +kernel⟩, List.mem_of_getElem? (i := 10) (by decide +kernel), List.mem_of_getElem? (i := 298) (by decide +kernel), List.mem_of_getElem? (i := 299) (by decide +kernel)⟩
theorem lw_p8 : lw_okq (⟨"FerryTerminal", "hasBoardingTurn", "(LFerryTerminal$Sailing;)Z"⟩, 12) := ⟨⟨by decide +kernel, by decide +kernel⟩, List.mem_of_getElem? (i := 10) (by decide +kernel), List.mem_of_getElem? (i := 302) (by decide +kernel), List.mem_of_getElem? (i := 303) (by decide +kernel)⟩
theorem lw_p9 : lw_okq (⟨"FerryTerminal", "doRecallTurn", "(LFerryTerminal$Sailing;)V"⟩, 12) := ⟨⟨by decide +kernel, by decide +kernel⟩, List.mem_of_getElem? (i := 10) (by decide +kernel), List.mem_of_getElem? (i := 306) (by decide +kernel), List.mem_of_getElem? (i := 307) (by decide +kernel)⟩
theorem lw_p10 : lw_okq (⟨"FerryTerminal", "latestAboard", "(LFerryTerminal$Sailing;)LFerryTerminal$Ticket;"⟩, 12) := ⟨⟨by decide +kernel, by decide +kernel⟩, List.mem_of_getElem? (i := 10) (by decide +kernel), List.mem_of_getElem? (i := 310) (by decide +kernel), List.mem_of_getElem? (i := 311) (by decide +kernel)⟩
theorem lw_p11 : lw_okq (⟨"FerryTerminal", "bringOff", "(LFerryTerminal$Ticket;)V"⟩, 12) := ⟨⟨by decide +kernel, by decide +kernel⟩, List.mem_of_getElem? (i := 10) (by decide +kernel), List.mem_of_getElem? (i := 314) (by decide +kernel), List.mem_of_getElem? (i := 315) (by decide +kernel)⟩
theorem lw_p12 : lw_okq (⟨"FerryTerminal$Ship", "clearPlace", "(LFerryTerminal$Ticket;)V"⟩, 8) := ⟨⟨by decide +kernel, by decide +kernel⟩, List.mem_of_getElem? (i := 70) (by decide +kernel), List.mem_of_getElem? (i := 318) (by decide +kernel), List.mem_of_getElem? (i := 319) (by decide +kernel)⟩
theorem lw_p13 : lw_okq (⟨"FerryTerminal$Ship", "nextAhead", "(LFerryTerminal$Ticket;)LFerryTerminal$Ticket;"⟩, 8) := ⟨⟨by decide +kernel, by decide +kernel⟩, List.mem_of_getElem? (i := 70) (by decide +kernel), List.mem_of_getElem? (i := 322) (by decide +kernel), List.mem_of_getElem? (i := 323) (by decide +kernel)⟩
theorem lw_p14 : lw_okq (⟨"FerryTerminal$Ship", "nearestBow", "(II)LFerryTerminal$Ticket;"⟩, 8) := ⟨⟨by decide +kernel, by decide +kernel⟩, List.mem_of_getElem? (i := 70) (by decide +kernel), List.mem_of_getElem? (i := 326) (by decide +kernel), List.mem_of_getElem? (i := 327) (by decide +kernel)⟩
theorem lw_p15 : lw_okq (⟨"FerryTerminal$Ship", "hasLane", "(II)Z"⟩, 8) := ⟨⟨by decide +kernel, by decide +kernel⟩, List.mem_of_getElem? (i := 70) (by decide +kernel), List.mem_of_getElem? (i := 330) (by decide +kernel), List.mem_of_getElem? (i := 331) (by decide +kernel)⟩
def lw_privs_1 : List (MethodName × Nat) := [(⟨"FerryTerminal", "shipNumbered", "(I)LFerryTerminal$Ship;"⟩, 12), (⟨"FerryTerminal", "liesTooNear", "(LFerryTerminal$Ship;I)Z"⟩, 12), (⟨"FerryTerminal", "sailingNumbered", "(I)LFerryTerminal$Sailing;"⟩, 12), (⟨"FerryTerminal$Sailing", "takesTickets", "()Z"⟩, 9), (⟨"FerryTerminal$Sailing", "isPlannedOrOpen", "()Z"⟩, 9), (⟨"FerryTerminal", "ticketNumbered", "(I)LFerryTerminal$Ticket;"⟩, 12), (⟨"FerryTerminal", "hasOpenSailing", "(LFerryTerminal$Ship;)Z"⟩, 12), (⟨"FerryTerminal", "firstWithTurn", "()LFerryTerminal$Sailing;"⟩, 12), (⟨"FerryTerminal", "hasBoardingTurn", "(LFerryTerminal$Sailing;)Z"⟩, 12), (⟨"FerryTerminal", "doRecallTurn", "(LFerryTerminal$Sailing;)V"⟩, 12), (⟨"FerryTerminal", "latestAboard", "(LFerryTerminal$Sailing;)LFerryTerminal$Ticket;"⟩, 12), (⟨"FerryTerminal", "bringOff", "(LFerryTerminal$Ticket;)V"⟩, 12), (⟨"FerryTerminal$Ship", "clearPlace", "(LFerryTerminal$Ticket;)V"⟩, 8), (⟨"FerryTerminal$Ship", "nextAhead", "(LFerryTerminal$Ticket;)LFerryTerminal$Ticket;"⟩, 8), (⟨"FerryTerminal$Ship", "nearestBow", "(II)LFerryTerminal$Ticket;"⟩, 8), (⟨"FerryTerminal$Ship", "hasLane", "(II)Z"⟩, 8)]
theorem lw_r1 : ∀ q ∈ lw_privs_1, lw_okq q := List.forall_mem_cons.mpr ⟨lw_p0, List.forall_mem_cons.mpr ⟨lw_p1, List.forall_mem_cons.mpr ⟨lw_p2, List.forall_mem_cons.mpr ⟨lw_p3, List.forall_mem_cons.mpr ⟨lw_p4, List.forall_mem_cons.mpr ⟨lw_p5, List.forall_mem_cons.mpr ⟨lw_p6, List.forall_mem_cons.mpr ⟨lw_p7, List.forall_mem_cons.mpr ⟨lw_p8, List.forall_mem_cons.mpr ⟨lw_p9, List.forall_mem_cons.mpr ⟨lw_p10, List.forall_mem_cons.mpr ⟨lw_p11, List.forall_mem_cons.mpr ⟨lw_p12, List.forall_mem_cons.mpr ⟨lw_p13, List.forall_mem_cons.mpr ⟨lw_p14, List.forall_mem_cons.mpr ⟨lw_p15, fun _ h => absurd h List.not_mem_nil⟩⟩⟩⟩⟩⟩⟩⟩⟩⟩⟩⟩⟩⟩⟩⟩
theorem lw_p16 : lw_okq (⟨"FerryTerminal$Ship", "chain", "(LFerryTerminal$Ticket;LFerryTerminal$Ticket;LFerryTerminal$Ticket;)V"⟩, 8) := ⟨⟨by decide +kernel, by decide +kernel⟩, List.mem_of_getElem? (i := 70) (by decide +kernel), List.mem_of_getElem? (i := 334) (by decide +kernel), List.mem_of_getElem? (i := 335) (by decide +kernel)⟩
theorem lw_p17 : lw_okq (⟨"FerryTerminal", "freeCabin", "(LFerryTerminal$Ticket;)V"⟩, 12) := ⟨⟨by decide +kernel, by decide +kernel⟩, List.mem_of_getElem? (i := 10) (by decide +kernel), List.mem_of_getElem? (i := 338) (by decide +kernel), List.mem_of_getElem? (i := 339) (by decide +kernel)⟩
theorem lw_p18 : lw_okq (⟨"FerryTerminal", "writeLog", "(ILFerryTerminal$Ticket;LFerryTerminal$Sailing;)V"⟩, 12) := ⟨⟨by decide +kernel, by decide +kernel⟩, List.mem_of_getElem? (i := 10) (by decide +kernel), List.mem_of_getElem? (i := 342) (by decide +kernel), List.mem_of_getElem? (i := 343) (by decide +kernel)⟩
theorem lw_p19 : lw_okq (⟨"FerryTerminal", "firstToMoveOn", "(LFerryTerminal$Sailing;)LFerryTerminal$Ticket;"⟩, 12) := ⟨⟨by decide +kernel, by decide +kernel⟩, List.mem_of_getElem? (i := 10) (by decide +kernel), List.mem_of_getElem? (i := 346) (by decide +kernel), List.mem_of_getElem? (i := 347) (by decide +kernel)⟩
theorem lw_p20 : lw_okq (⟨"FerryTerminal", "nextOfLine", "(LFerryTerminal$Sailing;I)LFerryTerminal$Sailing;"⟩, 12) := ⟨⟨by decide +kernel, by decide +kernel⟩, List.mem_of_getElem? (i := 10) (by decide +kernel), List.mem_of_getElem? (i := 350) (by decide +kernel), List.mem_of_getElem? (i := 351) (by decide +kernel)⟩
theorem lw_p21 : lw_okq (⟨"FerryTerminal", "doBoardingTurn", "(LFerryTerminal$Sailing;)V"⟩, 12) := ⟨⟨by decide +kernel, by decide +kernel⟩, List.mem_of_getElem? (i := 10) (by decide +kernel), List.mem_of_getElem? (i := 354) (by decide +kernel), List.mem_of_getElem? (i := 355) (by decide +kernel)⟩
theorem lw_p22 : lw_okq (⟨"FerryTerminal", "firstHere", "(LFerryTerminal$Sailing;)LFerryTerminal$Ticket;"⟩, 12) := ⟨⟨by decide +kernel, by decide +kernel⟩, List.mem_of_getElem? (i := 10) (by decide +kernel), List.mem_of_getElem? (i := 358) (by decide +kernel), List.mem_of_getElem? (i := 359) (by decide +kernel)⟩
theorem lw_p23 : lw_okq (⟨"FerryTerminal", "goOnAfterRamp", "(LFerryTerminal$Sailing;LFerryTerminal$Ticket;)V"⟩, 12) := ⟨⟨by decide +kernel, by decide +kernel⟩, List.mem_of_getElem? (i := 10) (by decide +kernel), List.mem_of_getElem? (i := 362) (by decide +kernel), List.mem_of_getElem? (i := 363) (by decide +kernel)⟩
theorem lw_p24 : lw_okq (⟨"FerryTerminal", "takeFreeCabin", "(LFerryTerminal$Ship;I)I"⟩, 12) := ⟨⟨by decide +kernel, by decide +kernel⟩, List.mem_of_getElem? (i := 10) (by decide +kernel), List.mem_of_getElem? (i := 366) (by decide +kernel), List.mem_of_getElem? (i := 367) (by decide +kernel)⟩
theorem lw_p25 : lw_okq (⟨"FerryTerminal", "firstOfBoardingList", "(LFerryTerminal$Sailing;)LFerryTerminal$Ticket;"⟩, 12) := ⟨⟨by decide +kernel, by decide +kernel⟩, List.mem_of_getElem? (i := 10) (by decide +kernel), List.mem_of_getElem? (i := 370) (by decide +kernel), List.mem_of_getElem? (i := 371) (by decide +kernel)⟩
theorem lw_p26 : lw_okq (⟨"FerryTerminal$Ticket", "boardsAheadOf", "(LFerryTerminal$Ticket;)Z"⟩, 16) := ⟨⟨by decide +kernel, by decide +kernel⟩, List.mem_of_getElem? (i := 204) (by decide +kernel), List.mem_of_getElem? (i := 374) (by decide +kernel), List.mem_of_getElem? (i := 375) (by decide +kernel)⟩
theorem lw_p27 : lw_okq (⟨"FerryTerminal$Ticket", "isLate", "()Z"⟩, 16) := ⟨⟨by decide +kernel, by decide +kernel⟩, List.mem_of_getElem? (i := 204) (by decide +kernel), List.mem_of_getElem? (i := 378) (by decide +kernel), List.mem_of_getElem? (i := 379) (by decide +kernel)⟩
theorem lw_p28 : lw_okq (⟨"FerryTerminal", "doRampTurn", "(LFerryTerminal$Sailing;LFerryTerminal$Ticket;)V"⟩, 12) := ⟨⟨by decide +kernel, by decide +kernel⟩, List.mem_of_getElem? (i := 10) (by decide +kernel), List.mem_of_getElem? (i := 382) (by decide +kernel), List.mem_of_getElem? (i := 383) (by decide +kernel)⟩
theorem lw_p29 : lw_okq (⟨"FerryTerminal$Ship", "placeByDeckRule", "(LFerryTerminal$Ticket;)Z"⟩, 8) := ⟨⟨by decide +kernel, by decide +kernel⟩, List.mem_of_getElem? (i := 70) (by decide +kernel), List.mem_of_getElem? (i := 386) (by decide +kernel), List.mem_of_getElem? (i := 387) (by decide +kernel)⟩
theorem lw_p30 : lw_okq (⟨"FerryTerminal$Ship", "freePlaces", "(II)I"⟩, 8) := ⟨⟨by decide +kernel, by decide +kernel⟩, List.mem_of_getElem? (i := 70) (by decide +kernel), List.mem_of_getElem? (i := 390) (by decide +kernel), List.mem_of_getElem? (i := 391) (by decide +kernel)⟩
theorem lw_p31 : lw_okq (⟨"FerryTerminal$Ship", "mayStand", "(III)Z"⟩, 8) := ⟨⟨by decide +kernel, by decide +kernel⟩, List.mem_of_getElem? (i := 70) (by decide +kernel), List.mem_of_getElem? (i := 394) (by decide +kernel), List.mem_of_getElem? (i := 395) (by decide +kernel)⟩
def lw_privs_2 : List (MethodName × Nat) := [(⟨"FerryTerminal$Ship", "chain", "(LFerryTerminal$Ticket;LFerryTerminal$Ticket;LFerryTerminal$Ticket;)V"⟩, 8), (⟨"FerryTerminal", "freeCabin", "(LFerryTerminal$Ticket;)V"⟩, 12), (⟨"FerryTerminal", "writeLog", "(ILFerryTerminal$Ticket;LFerryTerminal$Sailing;)V"⟩, 12), (⟨"FerryTerminal", "firstToMoveOn", "(LFerryTerminal$Sailing;)LFerryTerminal$Ticket;"⟩, 12), (⟨"FerryTerminal", "nextOfLine", "(LFerryTerminal$Sailing;I)LFerryTerminal$Sailing;"⟩, 12), (⟨"FerryTerminal", "doBoardingTurn", "(LFerryTerminal$Sailing;)V"⟩, 12), (⟨"FerryTerminal", "firstHere", "(LFerryTerminal$Sailing;)LFerryTerminal$Ticket;"⟩, 12), (⟨"FerryTerminal", "goOnAfterRamp", "(LFerryTerminal$Sailing;LFerryTerminal$Ticket;)V"⟩, 12), (⟨"FerryTerminal", "takeFreeCabin", "(LFerryTerminal$Ship;I)I"⟩, 12), (⟨"FerryTerminal", "firstOfBoardingList", "(LFerryTerminal$Sailing;)LFerryTerminal$Ticket;"⟩, 12), (⟨"FerryTerminal$Ticket", "boardsAheadOf", "(LFerryTerminal$Ticket;)Z"⟩, 16), (⟨"FerryTerminal$Ticket", "isLate", "()Z"⟩, 16), (⟨"FerryTerminal", "doRampTurn", "(LFerryTerminal$Sailing;LFerryTerminal$Ticket;)V"⟩, 12), (⟨"FerryTerminal$Ship", "placeByDeckRule", "(LFerryTerminal$Ticket;)Z"⟩, 8), (⟨"FerryTerminal$Ship", "freePlaces", "(II)I"⟩, 8), (⟨"FerryTerminal$Ship", "mayStand", "(III)Z"⟩, 8)]
theorem lw_r2 : ∀ q ∈ lw_privs_2, lw_okq q := List.forall_mem_cons.mpr ⟨lw_p16, List.forall_mem_cons.mpr ⟨lw_p17, List.forall_mem_cons.mpr ⟨lw_p18, List.forall_mem_cons.mpr ⟨lw_p19, List.forall_mem_cons.mpr ⟨lw_p20, List.forall_mem_cons.mpr ⟨lw_p21, List.forall_mem_cons.mpr ⟨lw_p22, List.forall_mem_cons.mpr ⟨lw_p23, List.forall_mem_cons.mpr ⟨lw_p24, List.forall_mem_cons.mpr ⟨lw_p25, List.forall_mem_cons.mpr ⟨lw_p26, List.forall_mem_cons.mpr ⟨lw_p27, List.forall_mem_cons.mpr ⟨lw_p28, List.forall_mem_cons.mpr ⟨lw_p29, List.forall_mem_cons.mpr ⟨lw_p30, List.forall_mem_cons.mpr ⟨lw_p31, fun _ h => absurd h List.not_mem_nil⟩⟩⟩⟩⟩⟩⟩⟩⟩⟩⟩⟩⟩⟩⟩⟩
theorem lw_p32 : lw_okq (⟨"FerryTerminal$Ship", "tallStandsUnder", "()Z"⟩, 8) := ⟨⟨by decide +kernel, by decide +kernel⟩, List.mem_of_getElem? (i := 70) (by decide +kernel), List.mem_of_getElem? (i := 398) (by decide +kernel), List.mem_of_getElem? (i := 399) (by decide +kernel)⟩
theorem lw_p33 : lw_okq (⟨"FerryTerminal$Ship", "somethingOnDeckOne", "()Z"⟩, 8) := ⟨⟨by decide +kernel, by decide +kernel⟩, List.mem_of_getElem? (i := 70) (by decide +kernel), List.mem_of_getElem? (i := 402) (by decide +kernel), List.mem_of_getElem? (i := 403) (by decide +kernel)⟩
theorem lw_p34 : lw_okq (⟨"FerryTerminal$Ship", "firstGap", "(III)I"⟩, 8) := ⟨⟨by decide +kernel, by decide +kernel⟩, List.mem_of_getElem? (i := 70) (by decide +kernel), List.mem_of_getElem? (i := 406) (by decide +kernel), List.mem_of_getElem? (i := 407) (by decide +kernel)⟩
theorem lw_p35 : lw_okq (⟨"FerryTerminal$Ship", "putInPlace", "(LFerryTerminal$Ticket;III)V"⟩, 8) := ⟨⟨by decide +kernel, by decide +kernel⟩, List.mem_of_getElem? (i := 70) (by decide +kernel), List.mem_of_getElem? (i := 410) (by decide +kernel), List.mem_of_getElem? (i := 411) (by decide +kernel)⟩
theorem lw_p36 : lw_okq (⟨"FerryTerminal", "bringRecallOn", "(LFerryTerminal$Sailing;)V"⟩, 12) := ⟨⟨by decide +kernel, by decide +kernel⟩, List.mem_of_getElem? (i := 10) (by decide +kernel), List.mem_of_getElem? (i := 414) (by decide +kernel), List.mem_of_getElem? (i := 415) (by decide +kernel)⟩
theorem lw_p37 : lw_okq (⟨"FerryTerminal", "endTicket", "(LFerryTerminal$Ticket;)V"⟩, 12) := ⟨⟨by decide +kernel, by decide +kernel⟩, List.mem_of_getElem? (i := 10) (by decide +kernel), List.mem_of_getElem? (i := 426) (by decide +kernel), List.mem_of_getElem? (i := 427) (by decide +kernel)⟩
theorem lw_p38 : lw_okq (⟨"FerryTerminal", "ticketsOf", "(LFerryTerminal$Sailing;)I"⟩, 12) := ⟨⟨by decide +kernel, by decide +kernel⟩, List.mem_of_getElem? (i := 10) (by decide +kernel), List.mem_of_getElem? (i := 442) (by decide +kernel), List.mem_of_getElem? (i := 443) (by decide +kernel)⟩
theorem lw_p39 : lw_okq (⟨"FerryTerminal$Ticket", "tell", "(I)I"⟩, 16) := ⟨⟨by decide +kernel, by decide +kernel⟩, List.mem_of_getElem? (i := 204) (by decide +kernel), List.mem_of_getElem? (i := 450) (by decide +kernel), List.mem_of_getElem? (i := 451) (by decide +kernel)⟩
theorem lw_p40 : lw_okq (⟨"FerryTerminal$Ship", "longestGap", "(II)I"⟩, 8) := ⟨⟨by decide +kernel, by decide +kernel⟩, List.mem_of_getElem? (i := 70) (by decide +kernel), List.mem_of_getElem? (i := 465) (by decide +kernel), List.mem_of_getElem? (i := 466) (by decide +kernel)⟩
theorem lw_p41 : lw_okq (⟨"FerryTerminal", "firstWrong", "(LFerryTerminal$Alteration;)I"⟩, 12) := ⟨⟨by decide +kernel, by decide +kernel⟩, List.mem_of_getElem? (i := 10) (by decide +kernel), List.mem_of_getElem? (i := 515) (by decide +kernel), List.mem_of_getElem? (i := 516) (by decide +kernel)⟩
theorem lw_p42 : lw_okq (⟨"FerryTerminal", "placeAgrees", "(LFerryTerminal$Alteration;LFerryTerminal$Ticket;)Z"⟩, 12) := ⟨⟨by decide +kernel, by decide +kernel⟩, List.mem_of_getElem? (i := 10) (by decide +kernel), List.mem_of_getElem? (i := 519) (by decide +kernel), List.mem_of_getElem? (i := 520) (by decide +kernel)⟩
theorem lw_p43 : lw_okq (⟨"FerryTerminal$Alteration", "number", "(LFerryTerminal$Ticket;I)I"⟩, 3) := ⟨⟨by decide +kernel, by decide +kernel⟩, List.mem_of_getElem? (i := 499) (by decide +kernel), List.mem_of_getElem? (i := 523) (by decide +kernel), List.mem_of_getElem? (i := 524) (by decide +kernel)⟩
theorem lw_p44 : lw_okq (⟨"FerryTerminal", "cabinAgrees", "(LFerryTerminal$Alteration;LFerryTerminal$Ticket;)Z"⟩, 12) := ⟨⟨by decide +kernel, by decide +kernel⟩, List.mem_of_getElem? (i := 10) (by decide +kernel), List.mem_of_getElem? (i := 531) (by decide +kernel), List.mem_of_getElem? (i := 532) (by decide +kernel)⟩
theorem lw_p45 : lw_okq (⟨"FerryTerminal$Alteration", "mayHaveCabin", "(LFerryTerminal$Ticket;)Z"⟩, 3) := ⟨⟨by decide +kernel, by decide +kernel⟩, List.mem_of_getElem? (i := 499) (by decide +kernel), List.mem_of_getElem? (i := 535) (by decide +kernel), List.mem_of_getElem? (i := 536) (by decide +kernel)⟩
theorem lw_p46 : lw_okq (⟨"FerryTerminalModel", "isShip", "(I)Z"⟩, 31) := ⟨⟨by decide +kernel, by decide +kernel⟩, List.mem_of_getElem? (i := 546) (by decide +kernel), List.mem_of_getElem? (i := 658) (by decide +kernel), List.mem_of_getElem? (i := 659) (by decide +kernel)⟩
theorem lw_p47 : lw_okq (⟨"FerryTerminalModel", "isSailing", "(I)Z"⟩, 31) := ⟨⟨by decide +kernel, by decide +kernel⟩, List.mem_of_getElem? (i := 546) (by decide +kernel), List.mem_of_getElem? (i := 672) (by decide +kernel), List.mem_of_getElem? (i := 673) (by decide +kernel)⟩
def lw_privs_3 : List (MethodName × Nat) := [(⟨"FerryTerminal$Ship", "tallStandsUnder", "()Z"⟩, 8), (⟨"FerryTerminal$Ship", "somethingOnDeckOne", "()Z"⟩, 8), (⟨"FerryTerminal$Ship", "firstGap", "(III)I"⟩, 8), (⟨"FerryTerminal$Ship", "putInPlace", "(LFerryTerminal$Ticket;III)V"⟩, 8), (⟨"FerryTerminal", "bringRecallOn", "(LFerryTerminal$Sailing;)V"⟩, 12), (⟨"FerryTerminal", "endTicket", "(LFerryTerminal$Ticket;)V"⟩, 12), (⟨"FerryTerminal", "ticketsOf", "(LFerryTerminal$Sailing;)I"⟩, 12), (⟨"FerryTerminal$Ticket", "tell", "(I)I"⟩, 16), (⟨"FerryTerminal$Ship", "longestGap", "(II)I"⟩, 8), (⟨"FerryTerminal", "firstWrong", "(LFerryTerminal$Alteration;)I"⟩, 12), (⟨"FerryTerminal", "placeAgrees", "(LFerryTerminal$Alteration;LFerryTerminal$Ticket;)Z"⟩, 12), (⟨"FerryTerminal$Alteration", "number", "(LFerryTerminal$Ticket;I)I"⟩, 3), (⟨"FerryTerminal", "cabinAgrees", "(LFerryTerminal$Alteration;LFerryTerminal$Ticket;)Z"⟩, 12), (⟨"FerryTerminal$Alteration", "mayHaveCabin", "(LFerryTerminal$Ticket;)Z"⟩, 3), (⟨"FerryTerminalModel", "isShip", "(I)Z"⟩, 31), (⟨"FerryTerminalModel", "isSailing", "(I)Z"⟩, 31)]
theorem lw_r3 : ∀ q ∈ lw_privs_3, lw_okq q := List.forall_mem_cons.mpr ⟨lw_p32, List.forall_mem_cons.mpr ⟨lw_p33, List.forall_mem_cons.mpr ⟨lw_p34, List.forall_mem_cons.mpr ⟨lw_p35, List.forall_mem_cons.mpr ⟨lw_p36, List.forall_mem_cons.mpr ⟨lw_p37, List.forall_mem_cons.mpr ⟨lw_p38, List.forall_mem_cons.mpr ⟨lw_p39, List.forall_mem_cons.mpr ⟨lw_p40, List.forall_mem_cons.mpr ⟨lw_p41, List.forall_mem_cons.mpr ⟨lw_p42, List.forall_mem_cons.mpr ⟨lw_p43, List.forall_mem_cons.mpr ⟨lw_p44, List.forall_mem_cons.mpr ⟨lw_p45, List.forall_mem_cons.mpr ⟨lw_p46, List.forall_mem_cons.mpr ⟨lw_p47, fun _ h => absurd h List.not_mem_nil⟩⟩⟩⟩⟩⟩⟩⟩⟩⟩⟩⟩⟩⟩⟩⟩
theorem lw_p48 : lw_okq (⟨"FerryTerminalModel", "isToGo", "(I)Z"⟩, 31) := ⟨⟨by decide +kernel, by decide +kernel⟩, List.mem_of_getElem? (i := 546) (by decide +kernel), List.mem_of_getElem? (i := 676) (by decide +kernel), List.mem_of_getElem? (i := 677) (by decide +kernel)⟩
theorem lw_p49 : lw_okq (⟨"FerryTerminalModel", "put", "(III)V"⟩, 31) := ⟨⟨by decide +kernel, by decide +kernel⟩, List.mem_of_getElem? (i := 546) (by decide +kernel), List.mem_of_getElem? (i := 680) (by decide +kernel), List.mem_of_getElem? (i := 681) (by decide +kernel)⟩
theorem lw_p50 : lw_okq (⟨"FerryTerminalModel", "isTicket", "(I)Z"⟩, 31) := ⟨⟨by decide +kernel, by decide +kernel⟩, List.mem_of_getElem? (i := 546) (by decide +kernel), List.mem_of_getElem? (i := 688) (by decide +kernel), List.mem_of_getElem? (i := 689) (by decide +kernel)⟩
theorem lw_p51 : lw_okq (⟨"FerryTerminalModel", "of", "(II)I"⟩, 31) := ⟨⟨by decide +kernel, by decide +kernel⟩, List.mem_of_getElem? (i := 546) (by decide +kernel), List.mem_of_getElem? (i := 692) (by decide +kernel), List.mem_of_getElem? (i := 693) (by decide +kernel)⟩
theorem lw_p52 : lw_okq (⟨"FerryTerminalModel", "openOf", "(I)I"⟩, 31) := ⟨⟨by decide +kernel, by decide +kernel⟩, List.mem_of_getElem? (i := 546) (by decide +kernel), List.mem_of_getElem? (i := 701) (by decide +kernel), List.mem_of_getElem? (i := 702) (by decide +kernel)⟩
theorem lw_p53 : lw_okq (⟨"FerryTerminalModel", "lookAtRecall", "(I)V"⟩, 31) := ⟨⟨by decide +kernel, by decide +kernel⟩, List.mem_of_getElem? (i := 546) (by decide +kernel), List.mem_of_getElem? (i := 709) (by decide +kernel), List.mem_of_getElem? (i := 710) (by decide +kernel)⟩
theorem lw_p54 : lw_okq (⟨"FerryTerminalModel", "hasTurn", "(I)Z"⟩, 31) := ⟨⟨by decide +kernel, by decide +kernel⟩, List.mem_of_getElem? (i := 546) (by decide +kernel), List.mem_of_getElem? (i := 713) (by decide +kernel), List.mem_of_getElem? (i := 714) (by decide +kernel)⟩
theorem lw_p55 : lw_okq (⟨"FerryTerminalModel", "nextTurn", "(I)I"⟩, 31) := ⟨⟨by decide +kernel, by decide +kernel⟩, List.mem_of_getElem? (i := 546) (by decide +kernel), List.mem_of_getElem? (i := 717) (by decide +kernel), List.mem_of_getElem? (i := 718) (by decide +kernel)⟩
theorem lw_p56 : lw_okq (⟨"FerryTerminalModel", "recallTurn", "(I)I"⟩, 31) := ⟨⟨by decide +kernel, by decide +kernel⟩, List.mem_of_getElem? (i := 546) (by decide +kernel), List.mem_of_getElem? (i := 721) (by decide +kernel), List.mem_of_getElem? (i := 722) (by decide +kernel)⟩
theorem lw_p57 : lw_okq (⟨"FerryTerminalModel", "isAboard", "(II)Z"⟩, 31) := ⟨⟨by decide +kernel, by decide +kernel⟩, List.mem_of_getElem? (i := 546) (by decide +kernel), List.mem_of_getElem? (i := 725) (by decide +kernel), List.mem_of_getElem? (i := 726) (by decide +kernel)⟩
theorem lw_p58 : lw_okq (⟨"FerryTerminalModel", "isAhead", "(III)Z"⟩, 31) := ⟨⟨by decide +kernel, by decide +kernel⟩, List.mem_of_getElem? (i := 546) (by decide +kernel), List.mem_of_getElem? (i := 729) (by decide +kernel), List.mem_of_getElem? (i := 730) (by decide +kernel)⟩
theorem lw_p59 : lw_okq (⟨"FerryTerminalModel", "isLate", "(II)Z"⟩, 31) := ⟨⟨by decide +kernel, by decide +kernel⟩, List.mem_of_getElem? (i := 546) (by decide +kernel), List.mem_of_getElem? (i := 733) (by decide +kernel), List.mem_of_getElem? (i := 734) (by decide +kernel)⟩
theorem lw_p60 : lw_okq (⟨"FerryTerminalModel", "turn", "(I)Z"⟩, 31) := ⟨⟨by decide +kernel, by decide +kernel⟩, List.mem_of_getElem? (i := 546) (by decide +kernel), List.mem_of_getElem? (i := 741) (by decide +kernel), List.mem_of_getElem? (i := 742) (by decide +kernel)⟩
theorem lw_p61 : lw_okq (⟨"FerryTerminalModel", "write", "(III)V"⟩, 31) := ⟨⟨by decide +kernel, by decide +kernel⟩, List.mem_of_getElem? (i := 546) (by decide +kernel), List.mem_of_getElem? (i := 745) (by decide +kernel), List.mem_of_getElem? (i := 746) (by decide +kernel)⟩
theorem lw_p62 : lw_okq (⟨"FerryTerminalModel", "goesOn", "(II)V"⟩, 31) := ⟨⟨by decide +kernel, by decide +kernel⟩, List.mem_of_getElem? (i := 546) (by decide +kernel), List.mem_of_getElem? (i := 749) (by decide +kernel), List.mem_of_getElem? (i := 750) (by decide +kernel)⟩
theorem lw_p63 : lw_okq (⟨"FerryTerminalModel", "cabinFor", "(II)I"⟩, 31) := ⟨⟨by decide +kernel, by decide +kernel⟩, List.mem_of_getElem? (i := 546) (by decide +kernel), List.mem_of_getElem? (i := 753) (by decide +kernel), List.mem_of_getElem? (i := 754) (by decide +kernel)⟩
def lw_privs_4 : List (MethodName × Nat) := [(⟨"FerryTerminalModel", "isToGo", "(I)Z"⟩, 31), (⟨"FerryTerminalModel", "put", "(III)V"⟩, 31), (⟨"FerryTerminalModel", "isTicket", "(I)Z"⟩, 31), (⟨"FerryTerminalModel", "of", "(II)I"⟩, 31), (⟨"FerryTerminalModel", "openOf", "(I)I"⟩, 31), (⟨"FerryTerminalModel", "lookAtRecall", "(I)V"⟩, 31), (⟨"FerryTerminalModel", "hasTurn", "(I)Z"⟩, 31), (⟨"FerryTerminalModel", "nextTurn", "(I)I"⟩, 31), (⟨"FerryTerminalModel", "recallTurn", "(I)I"⟩, 31), (⟨"FerryTerminalModel", "isAboard", "(II)Z"⟩, 31), (⟨"FerryTerminalModel", "isAhead", "(III)Z"⟩, 31), (⟨"FerryTerminalModel", "isLate", "(II)Z"⟩, 31), (⟨"FerryTerminalModel", "turn", "(I)Z"⟩, 31), (⟨"FerryTerminalModel", "write", "(III)V"⟩, 31), (⟨"FerryTerminalModel", "goesOn", "(II)V"⟩, 31), (⟨"FerryTerminalModel", "cabinFor", "(II)I"⟩, 31)]
theorem lw_r4 : ∀ q ∈ lw_privs_4, lw_okq q := List.forall_mem_cons.mpr ⟨lw_p48, List.forall_mem_cons.mpr ⟨lw_p49, List.forall_mem_cons.mpr ⟨lw_p50, List.forall_mem_cons.mpr ⟨lw_p51, List.forall_mem_cons.mpr ⟨lw_p52, List.forall_mem_cons.mpr ⟨lw_p53, List.forall_mem_cons.mpr ⟨lw_p54, List.forall_mem_cons.mpr ⟨lw_p55, List.forall_mem_cons.mpr ⟨lw_p56, List.forall_mem_cons.mpr ⟨lw_p57, List.forall_mem_cons.mpr ⟨lw_p58, List.forall_mem_cons.mpr ⟨lw_p59, List.forall_mem_cons.mpr ⟨lw_p60, List.forall_mem_cons.mpr ⟨lw_p61, List.forall_mem_cons.mpr ⟨lw_p62, List.forall_mem_cons.mpr ⟨lw_p63, fun _ h => absurd h List.not_mem_nil⟩⟩⟩⟩⟩⟩⟩⟩⟩⟩⟩⟩⟩⟩⟩⟩
theorem lw_p64 : lw_okq (⟨"FerryTerminalModel", "boards", "(II)Z"⟩, 31) := ⟨⟨by decide +kernel, by decide +kernel⟩, List.mem_of_getElem? (i := 546) (by decide +kernel), List.mem_of_getElem? (i := 757) (by decide +kernel), List.mem_of_getElem? (i := 758) (by decide +kernel)⟩
theorem lw_p65 : lw_okq (⟨"FerryTerminalModel", "mayStand", "(IIIII)Z"⟩, 31) := ⟨⟨by decide +kernel, by decide +kernel⟩, List.mem_of_getElem? (i := 546) (by decide +kernel), List.mem_of_getElem? (i := 761) (by decide +kernel), List.mem_of_getElem? (i := 762) (by decide +kernel)⟩
theorem lw_p66 : lw_okq (⟨"FerryTerminalModel", "measure", "(IIIII)V"⟩, 31) := ⟨⟨by decide +kernel, by decide +kernel⟩, List.mem_of_getElem? (i := 546) (by decide +kernel), List.mem_of_getElem? (i := 765) (by decide +kernel), List.mem_of_getElem? (i := 766) (by decide +kernel)⟩
theorem lw_p67 : lw_okq (⟨"FerryTerminalModel", "comesOff", "(I)V"⟩, 31) := ⟨⟨by decide +kernel, by decide +kernel⟩, List.mem_of_getElem? (i := 546) (by decide +kernel), List.mem_of_getElem? (i := 770) (by decide +kernel), List.mem_of_getElem? (i := 771) (by decide +kernel)⟩
theorem lw_p68 : lw_okq (⟨"FerryTerminalModel", "goesAway", "(II)V"⟩, 31) := ⟨⟨by decide +kernel, by decide +kernel⟩, List.mem_of_getElem? (i := 546) (by decide +kernel), List.mem_of_getElem? (i := 774) (by decide +kernel), List.mem_of_getElem? (i := 775) (by decide +kernel)⟩
theorem lw_p69 : lw_okq (⟨"FerryTerminalModel", "isLane", "(III)Z"⟩, 31) := ⟨⟨by decide +kernel, by decide +kernel⟩, List.mem_of_getElem? (i := 546) (by decide +kernel), List.mem_of_getElem? (i := 802) (by decide +kernel), List.mem_of_getElem? (i := 803) (by decide +kernel)⟩
theorem lw_p70 : lw_okq (⟨"FerryTerminalModel", "covers", "(IIII)I"⟩, 31) := ⟨⟨by decide +kernel, by decide +kernel⟩, List.mem_of_getElem? (i := 546) (by decide +kernel), List.mem_of_getElem? (i := 806) (by decide +kernel), List.mem_of_getElem? (i := 807) (by decide +kernel)⟩
theorem lw_p71 : lw_okq (⟨"FerryTerminalModel", "agrees", "(I)Z"⟩, 31) := ⟨⟨by decide +kernel, by decide +kernel⟩, List.mem_of_getElem? (i := 546) (by decide +kernel), List.mem_of_getElem? (i := 834) (by decide +kernel), List.mem_of_getElem? (i := 835) (by decide +kernel)⟩
theorem lw_p72 : lw_okq (⟨"FerryTerminalModel", "isPlaceRight", "(III)Z"⟩, 31) := ⟨⟨by decide +kernel, by decide +kernel⟩, List.mem_of_getElem? (i := 546) (by decide +kernel), List.mem_of_getElem? (i := 838) (by decide +kernel), List.mem_of_getElem? (i := 839) (by decide +kernel)⟩
theorem lw_p73 : lw_okq (⟨"FerryTerminalModel", "isCabinRight", "(III)Z"⟩, 31) := ⟨⟨by decide +kernel, by decide +kernel⟩, List.mem_of_getElem? (i := 546) (by decide +kernel), List.mem_of_getElem? (i := 842) (by decide +kernel), List.mem_of_getElem? (i := 843) (by decide +kernel)⟩
def lw_privs_5 : List (MethodName × Nat) := [(⟨"FerryTerminalModel", "boards", "(II)Z"⟩, 31), (⟨"FerryTerminalModel", "mayStand", "(IIIII)Z"⟩, 31), (⟨"FerryTerminalModel", "measure", "(IIIII)V"⟩, 31), (⟨"FerryTerminalModel", "comesOff", "(I)V"⟩, 31), (⟨"FerryTerminalModel", "goesAway", "(II)V"⟩, 31), (⟨"FerryTerminalModel", "isLane", "(III)Z"⟩, 31), (⟨"FerryTerminalModel", "covers", "(IIII)I"⟩, 31), (⟨"FerryTerminalModel", "agrees", "(I)Z"⟩, 31), (⟨"FerryTerminalModel", "isPlaceRight", "(III)Z"⟩, 31), (⟨"FerryTerminalModel", "isCabinRight", "(III)Z"⟩, 31)]
theorem lw_r5 : ∀ q ∈ lw_privs_5, lw_okq q := List.forall_mem_cons.mpr ⟨lw_p64, List.forall_mem_cons.mpr ⟨lw_p65, List.forall_mem_cons.mpr ⟨lw_p66, List.forall_mem_cons.mpr ⟨lw_p67, List.forall_mem_cons.mpr ⟨lw_p68, List.forall_mem_cons.mpr ⟨lw_p69, List.forall_mem_cons.mpr ⟨lw_p70, List.forall_mem_cons.mpr ⟨lw_p71, List.forall_mem_cons.mpr ⟨lw_p72, List.forall_mem_cons.mpr ⟨lw_p73, fun _ h => absurd h List.not_mem_nil⟩⟩⟩⟩⟩⟩⟩⟩⟩⟩
def lw_privs : List (MethodName × Nat) := lw_privs_1 ++ (lw_privs_2 ++ (lw_privs_3 ++ (lw_privs_4 ++ (lw_privs_5))))
def lw_tbl : List Cond := k2_sels lw_privs ++ tables_1
theorem lw_privs_ok : ∀ q ∈ lw_privs, lw_okq q := by
  show ∀ q ∈ lw_privs_1 ++ (lw_privs_2 ++ (lw_privs_3 ++ (lw_privs_4 ++ (lw_privs_5)))), lw_okq q
  exact List.forall_mem_append.mpr ⟨lw_r1, List.forall_mem_append.mpr ⟨lw_r2, List.forall_mem_append.mpr ⟨lw_r3, List.forall_mem_append.mpr ⟨lw_r4, lw_r5⟩⟩⟩⟩
-- ===== end of PART A; then your names; then what follows =====
end
section
/-! ===== BEGIN words of one list among another's, by their places ===== -/
theorem goodIn_r {big : List Cond} (ws : List Cond) (ps : List Nat) (hp : ws = ps.filterMap (fun i => big[i]?)) (h : ws.all goodWord = true) : GoodIn big ws := by
  intro w hw
  have h1 := List.all_eq_true.mp h w hw
  rw [hp] at hw
  obtain ⟨i, -, hi⟩ := List.mem_filterMap.mp hw
  have hm : w ∈ big := by first | exact List.mem_of_getElem? hi | exact List.getElem?_mem hi
  exact ⟨hm, good_of_word h1⟩
theorem goodIn_app {big a b : List Cond} (ha : GoodIn big a) (hb : GoodIn big b) : GoodIn big (a ++ b) := fun w h => (List.mem_append.mp h).elim (ha w) (hb w)
theorem goodIn_ca {big a b : List Cond} {c : Cond} (ha : GoodIn big (c :: a)) (hb : GoodIn big b) : GoodIn big (c :: (a ++ b)) := fun w h => (List.mem_cons.mp h).elim (fun e => ha w (List.mem_cons.mpr (Or.inl e))) (fun h => (List.mem_append.mp h).elim (fun h => ha w (List.mem_cons.mpr (Or.inr h))) (hb w))
theorem goodIn_sub {big ws : List Cond} (hm : ∀ w ∈ ws, w ∈ big) (h : ws.all goodWord = true) : GoodIn big ws := fun w hw => ⟨hm w hw, good_of_word (List.all_eq_true.mp h w hw)⟩
/-! ===== END ===== -/

/-! ===== BEGIN printed: names, fields, word lists, decode rows ===== -/
def RX0 : String := "FerryTerminal$Alteration"
def TX0 : u_T := fun k => match k with
  | 0 => ("FerryTerminal$Alteration", "altered", "LFerryTerminal$Ticket;", true)
  | 1 => ("FerryTerminal$Alteration", "what", "I", true)
  | _ => ("FerryTerminal$Alteration", "mask", "I", true)
def tyX0 : Nat → FieldType := fun k => match k with
  | 0 => .object "FerryTerminal$Ticket"
  | 1 => .int
  | _ => .int
abbrev wsX00 : List Cond := u_ws RX0 TX0 3
theorem nmX0 : ∀ a, a < 3 → ∀ b, b < 3 → a ≠ b → (TX0 a).2.1 ≠ (TX0 b).2.1 := by decide +kernel
theorem tyX0_ok : ∀ k, k < 3 → parseFieldDescriptor (TX0 k).2.2.1 = some (tyX0 k) := by decide +kernel
abbrev cX0_init : ByteArray := prog_2_method_1_code
def yX0_init : MethodName := ⟨RX0, "<init>", "(LFerryTerminal$Ticket;II)V"⟩
abbrev cX0_number : ByteArray := prog_2_method_2_code
def yX0_number : MethodName := ⟨RX0, "number", "(LFerryTerminal$Ticket;I)I"⟩
abbrev cX0_mayHaveCabin : ByteArray := prog_2_method_3_code
def yX0_mayHaveCabin : MethodName := ⟨RX0, "mayHaveCabin", "(LFerryTerminal$Ticket;)Z"⟩
def RX1 : String := "FerryTerminal$Cabin"
def TX1 : u_T := fun k => match k with
  | 0 => ("FerryTerminal$Cabin", "vessel", "LFerryTerminal$Ship;", true)
  | 1 => ("FerryTerminal$Cabin", "beds", "I", true)
  | _ => ("FerryTerminal$Cabin", "taken", "Z", false)
def tyX1 : Nat → FieldType := fun k => match k with
  | 0 => .object "FerryTerminal$Ship"
  | 1 => .int
  | _ => .boolean
abbrev wsX10 : List Cond := u_ws RX1 TX1 3
theorem nmX1 : ∀ a, a < 3 → ∀ b, b < 3 → a ≠ b → (TX1 a).2.1 ≠ (TX1 b).2.1 := by decide +kernel
theorem tyX1_ok : ∀ k, k < 3 → parseFieldDescriptor (TX1 k).2.2.1 = some (tyX1 k) := by decide +kernel
abbrev cX1_init : ByteArray := prog_3_method_1_code
def yX1_init : MethodName := ⟨RX1, "<init>", "(LFerryTerminal$Ship;I)V"⟩
def RX2 : String := "FerryTerminal$Sailing"
def TX2 : u_T := fun k => match k with
  | 0 => ("FerryTerminal$Sailing", "number", "I", true)
  | 1 => ("FerryTerminal$Sailing", "vessel", "LFerryTerminal$Ship;", true)
  | 2 => ("FerryTerminal$Sailing", "minute", "I", true)
  | 3 => ("FerryTerminal$Sailing", "line", "I", true)
  | 4 => ("FerryTerminal$Sailing", "how", "I", false)
  | 5 => ("FerryTerminal$Sailing", "turns", "I", false)
  | 6 => ("FerryTerminal$Sailing", "recallIn", "I", false)
  | 7 => ("FerryTerminal$Sailing", "onRamp", "LFerryTerminal$Ticket;", false)
  | _ => ("FerryTerminal$Sailing", "cabinIsNext", "Z", false)
def tyX2 : Nat → FieldType := fun k => match k with
  | 0 => .int
  | 1 => .object "FerryTerminal$Ship"
  | 2 => .int
  | 3 => .int
  | 4 => .int
  | 5 => .int
  | 6 => .int
  | 7 => .object "FerryTerminal$Ticket"
  | _ => .boolean
abbrev wsX20 : List Cond := u_ws RX2 TX2 9
theorem nmX2 : ∀ a, a < 9 → ∀ b, b < 9 → a ≠ b → (TX2 a).2.1 ≠ (TX2 b).2.1 := by decide +kernel
theorem tyX2_ok : ∀ k, k < 9 → parseFieldDescriptor (TX2 k).2.2.1 = some (tyX2 k) := by decide +kernel
abbrev cX2_init : ByteArray := prog_4_method_1_code
def yX2_init : MethodName := ⟨RX2, "<init>", "(ILFerryTerminal$Ship;II)V"⟩
abbrev cX2_isPlannedOrOpen : ByteArray := prog_4_method_2_code
def yX2_isPlannedOrOpen : MethodName := ⟨RX2, "isPlannedOrOpen", "()Z"⟩
abbrev cX2_takesTickets : ByteArray := prog_4_method_3_code
def yX2_takesTickets : MethodName := ⟨RX2, "takesTickets", "()Z"⟩
def RX3 : String := "FerryTerminal$Ship"
def TX3 : u_T := fun k => match k with
  | 0 => ("FerryTerminal$Ship", "number", "I", true)
  | 1 => ("FerryTerminal$Ship", "decks", "I", true)
  | 2 => ("FerryTerminal$Ship", "lanes", "I", true)
  | 3 => ("FerryTerminal$Ship", "length", "I", true)
  | 4 => ("FerryTerminal$Ship", "half", "Z", true)
  | 5 => ("FerryTerminal$Ship", "cabinCount", "I", false)
  | 6 => ("FerryTerminal$Ship", "standing", "I", false)
  | _ => ("FerryTerminal$Ship", "firsts", "[LFerryTerminal$Ticket;", true)
def tyX3 : Nat → FieldType := fun k => match k with
  | 0 => .int
  | 1 => .int
  | 2 => .int
  | 3 => .int
  | 4 => .boolean
  | 5 => .int
  | 6 => .int
  | _ => .array (.object "FerryTerminal$Ticket")
abbrev wsX30 : List Cond := u_ws RX3 TX3 8
theorem nmX3 : ∀ a, a < 8 → ∀ b, b < 8 → a ≠ b → (TX3 a).2.1 ≠ (TX3 b).2.1 := by decide +kernel
theorem tyX3_ok : ∀ k, k < 8 → parseFieldDescriptor (TX3 k).2.2.1 = some (tyX3 k) := by decide +kernel
abbrev cX3_init : ByteArray := prog_5_method_1_code
def yX3_init : MethodName := ⟨RX3, "<init>", "(IIIIZ)V"⟩
abbrev cX3_hasLane : ByteArray := prog_5_method_2_code
def yX3_hasLane : MethodName := ⟨RX3, "hasLane", "(II)Z"⟩
abbrev cX3_nearestBow : ByteArray := prog_5_method_3_code
def yX3_nearestBow : MethodName := ⟨RX3, "nearestBow", "(II)LFerryTerminal$Ticket;"⟩
abbrev cX3_freePlaces : ByteArray := prog_5_method_4_code
def yX3_freePlaces : MethodName := ⟨RX3, "freePlaces", "(II)I"⟩
abbrev cX3_longestGap : ByteArray := prog_5_method_5_code
def yX3_longestGap : MethodName := ⟨RX3, "longestGap", "(II)I"⟩
abbrev cX3_firstGap : ByteArray := prog_5_method_6_code
def yX3_firstGap : MethodName := ⟨RX3, "firstGap", "(III)I"⟩
abbrev cX3_mayStand : ByteArray := prog_5_method_7_code
def yX3_mayStand : MethodName := ⟨RX3, "mayStand", "(III)Z"⟩
abbrev cX3_somethingOnDeckOne : ByteArray := prog_5_method_8_code
def yX3_somethingOnDeckOne : MethodName := ⟨RX3, "somethingOnDeckOne", "()Z"⟩
abbrev cX3_tallStandsUnder : ByteArray := prog_5_method_9_code
def yX3_tallStandsUnder : MethodName := ⟨RX3, "tallStandsUnder", "()Z"⟩
abbrev cX3_placeByDeckRule : ByteArray := prog_5_method_10_code
def yX3_placeByDeckRule : MethodName := ⟨RX3, "placeByDeckRule", "(LFerryTerminal$Ticket;)Z"⟩
abbrev cX3_putInPlace : ByteArray := prog_5_method_11_code
def yX3_putInPlace : MethodName := ⟨RX3, "putInPlace", "(LFerryTerminal$Ticket;III)V"⟩
abbrev cX3_clearPlace : ByteArray := prog_5_method_12_code
def yX3_clearPlace : MethodName := ⟨RX3, "clearPlace", "(LFerryTerminal$Ticket;)V"⟩
abbrev cX3_nextAhead : ByteArray := prog_5_method_13_code
def yX3_nextAhead : MethodName := ⟨RX3, "nextAhead", "(LFerryTerminal$Ticket;)LFerryTerminal$Ticket;"⟩
abbrev cX3_chain : ByteArray := prog_5_method_14_code
def yX3_chain : MethodName := ⟨RX3, "chain", "(LFerryTerminal$Ticket;LFerryTerminal$Ticket;LFerryTerminal$Ticket;)V"⟩
def RX4 : String := "FerryTerminal$Ticket"
def TX4 : u_T := fun k => match k with
  | 0 => ("FerryTerminal$Ticket", "number", "I", true)
  | 1 => ("FerryTerminal$Ticket", "trip", "LFerryTerminal$Sailing;", false)
  | 2 => ("FerryTerminal$Ticket", "length", "I", true)
  | 3 => ("FerryTerminal$Ticket", "height", "I", true)
  | 4 => ("FerryTerminal$Ticket", "wish", "I", true)
  | 5 => ("FerryTerminal$Ticket", "paid", "I", true)
  | 6 => ("FerryTerminal$Ticket", "how", "I", false)
  | 7 => ("FerryTerminal$Ticket", "minute", "I", false)
  | 8 => ("FerryTerminal$Ticket", "deck", "I", false)
  | 9 => ("FerryTerminal$Ticket", "lane", "I", false)
  | 10 => ("FerryTerminal$Ticket", "place", "I", false)
  | 11 => ("FerryTerminal$Ticket", "cabin", "I", false)
  | 12 => ("FerryTerminal$Ticket", "back", "I", false)
  | 13 => ("FerryTerminal$Ticket", "timesOn", "I", false)
  | 14 => ("FerryTerminal$Ticket", "boardedAt", "I", false)
  | _ => ("FerryTerminal$Ticket", "behind", "LFerryTerminal$Ticket;", false)
def tyX4 : Nat → FieldType := fun k => match k with
  | 0 => .int
  | 1 => .object "FerryTerminal$Sailing"
  | 2 => .int
  | 3 => .int
  | 4 => .int
  | 5 => .int
  | 6 => .int
  | 7 => .int
  | 8 => .int
  | 9 => .int
  | 10 => .int
  | 11 => .int
  | 12 => .int
  | 13 => .int
  | 14 => .int
  | _ => .object "FerryTerminal$Ticket"
abbrev wsX40 : List Cond := u_ws RX4 TX4 16
theorem nmX4 : ∀ a, a < 16 → ∀ b, b < 16 → a ≠ b → (TX4 a).2.1 ≠ (TX4 b).2.1 := by decide +kernel
theorem tyX4_ok : ∀ k, k < 16 → parseFieldDescriptor (TX4 k).2.2.1 = some (tyX4 k) := by decide +kernel
abbrev cX4_init : ByteArray := prog_6_method_1_code
def yX4_init : MethodName := ⟨RX4, "<init>", "(ILFerryTerminal$Sailing;IIII)V"⟩
abbrev cX4_isLate : ByteArray := prog_6_method_2_code
def yX4_isLate : MethodName := ⟨RX4, "isLate", "()Z"⟩
abbrev cX4_boardsAheadOf : ByteArray := prog_6_method_3_code
def yX4_boardsAheadOf : MethodName := ⟨RX4, "boardsAheadOf", "(LFerryTerminal$Ticket;)Z"⟩
abbrev cX4_tell : ByteArray := prog_6_method_4_code
def yX4_tell : MethodName := ⟨RX4, "tell", "(I)I"⟩
def RX5 : String := "FerryTerminal"
def TX5 : u_T := fun k => match k with
  | 0 => ("FerryTerminal", "ships", "[LFerryTerminal$Ship;", true)
  | 1 => ("FerryTerminal", "shipCount", "I", false)
  | 2 => ("FerryTerminal", "cabins", "[LFerryTerminal$Cabin;", true)
  | 3 => ("FerryTerminal", "cabinCount", "I", false)
  | 4 => ("FerryTerminal", "sailings", "[LFerryTerminal$Sailing;", true)
  | 5 => ("FerryTerminal", "sailingCount", "I", false)
  | 6 => ("FerryTerminal", "tickets", "[LFerryTerminal$Ticket;", true)
  | 7 => ("FerryTerminal", "ticketCount", "I", false)
  | 8 => ("FerryTerminal", "logKinds", "[I", true)
  | 9 => ("FerryTerminal", "logTickets", "[I", true)
  | 10 => ("FerryTerminal", "logSailings", "[I", true)
  | _ => ("FerryTerminal", "turnsEver", "I", false)
def tyX5 : Nat → FieldType := fun k => match k with
  | 0 => .array (.object "FerryTerminal$Ship")
  | 1 => .int
  | 2 => .array (.object "FerryTerminal$Cabin")
  | 3 => .int
  | 4 => .array (.object "FerryTerminal$Sailing")
  | 5 => .int
  | 6 => .array (.object "FerryTerminal$Ticket")
  | 7 => .int
  | 8 => .array .int
  | 9 => .array .int
  | 10 => .array .int
  | _ => .int
abbrev wsX50 : List Cond := u_ws RX5 TX5 12
theorem nmX5 : ∀ a, a < 12 → ∀ b, b < 12 → a ≠ b → (TX5 a).2.1 ≠ (TX5 b).2.1 := by decide +kernel
theorem tyX5_ok : ∀ k, k < 12 → parseFieldDescriptor (TX5 k).2.2.1 = some (tyX5 k) := by decide +kernel
abbrev cX5_init : ByteArray := prog_1_method_1_code
def yX5_init : MethodName := ⟨RX5, "<init>", "()V"⟩
abbrev cX5_ship : ByteArray := prog_1_method_2_code
def yX5_ship : MethodName := ⟨RX5, "ship", "(IIIZ)I"⟩
abbrev cX5_cabin : ByteArray := prog_1_method_3_code
def yX5_cabin : MethodName := ⟨RX5, "cabin", "(II)I"⟩
abbrev cX5_sailing : ByteArray := prog_1_method_4_code
def yX5_sailing : MethodName := ⟨RX5, "sailing", "(III)I"⟩
abbrev cX5_liesTooNear : ByteArray := prog_1_method_5_code
def yX5_liesTooNear : MethodName := ⟨RX5, "liesTooNear", "(LFerryTerminal$Ship;I)Z"⟩
abbrev cX5_book : ByteArray := prog_1_method_6_code
def yX5_book : MethodName := ⟨RX5, "book", "(IIII)I"⟩
abbrev cX5_fare : ByteArray := prog_1_method_7_code
def yX5_fare : MethodName := ⟨RX5, "fare", "(IIII)I"⟩
abbrev cX5_arrive : ByteArray := prog_1_method_8_code
def yX5_arrive : MethodName := ⟨RX5, "arrive", "(II)Z"⟩
abbrev cX5_open : ByteArray := prog_1_method_9_code
def yX5_open : MethodName := ⟨RX5, "open", "(I)Z"⟩
abbrev cX5_hasOpenSailing : ByteArray := prog_1_method_10_code
def yX5_hasOpenSailing : MethodName := ⟨RX5, "hasOpenSailing", "(LFerryTerminal$Ship;)Z"⟩
abbrev cX5_settle : ByteArray := prog_1_method_11_code
def yX5_settle : MethodName := ⟨RX5, "settle", "(I)I"⟩
abbrev cX5_firstWithTurn : ByteArray := prog_1_method_12_code
def yX5_firstWithTurn : MethodName := ⟨RX5, "firstWithTurn", "()LFerryTerminal$Sailing;"⟩
abbrev cX5_hasBoardingTurn : ByteArray := prog_1_method_13_code
def yX5_hasBoardingTurn : MethodName := ⟨RX5, "hasBoardingTurn", "(LFerryTerminal$Sailing;)Z"⟩
abbrev cX5_writeLog : ByteArray := prog_1_method_14_code
def yX5_writeLog : MethodName := ⟨RX5, "writeLog", "(ILFerryTerminal$Ticket;LFerryTerminal$Sailing;)V"⟩
abbrev cX5_doBoardingTurn : ByteArray := prog_1_method_15_code
def yX5_doBoardingTurn : MethodName := ⟨RX5, "doBoardingTurn", "(LFerryTerminal$Sailing;)V"⟩
abbrev cX5_firstHere : ByteArray := prog_1_method_16_code
def yX5_firstHere : MethodName := ⟨RX5, "firstHere", "(LFerryTerminal$Sailing;)LFerryTerminal$Ticket;"⟩
abbrev cX5_firstOfBoardingList : ByteArray := prog_1_method_17_code
def yX5_firstOfBoardingList : MethodName := ⟨RX5, "firstOfBoardingList", "(LFerryTerminal$Sailing;)LFerryTerminal$Ticket;"⟩
abbrev cX5_doRampTurn : ByteArray := prog_1_method_18_code
def yX5_doRampTurn : MethodName := ⟨RX5, "doRampTurn", "(LFerryTerminal$Sailing;LFerryTerminal$Ticket;)V"⟩
abbrev cX5_goOnAfterRamp : ByteArray := prog_1_method_19_code
def yX5_goOnAfterRamp : MethodName := ⟨RX5, "goOnAfterRamp", "(LFerryTerminal$Sailing;LFerryTerminal$Ticket;)V"⟩
abbrev cX5_takeFreeCabin : ByteArray := prog_1_method_20_code
def yX5_takeFreeCabin : MethodName := ⟨RX5, "takeFreeCabin", "(LFerryTerminal$Ship;I)I"⟩
abbrev cX5_freeCabin : ByteArray := prog_1_method_21_code
def yX5_freeCabin : MethodName := ⟨RX5, "freeCabin", "(LFerryTerminal$Ticket;)V"⟩
abbrev cX5_bringOff : ByteArray := prog_1_method_22_code
def yX5_bringOff : MethodName := ⟨RX5, "bringOff", "(LFerryTerminal$Ticket;)V"⟩
abbrev cX5_recall : ByteArray := prog_1_method_23_code
def yX5_recall : MethodName := ⟨RX5, "recall", "(II)Z"⟩
abbrev cX5_bringRecallOn : ByteArray := prog_1_method_24_code
def yX5_bringRecallOn : MethodName := ⟨RX5, "bringRecallOn", "(LFerryTerminal$Sailing;)V"⟩
abbrev cX5_doRecallTurn : ByteArray := prog_1_method_25_code
def yX5_doRecallTurn : MethodName := ⟨RX5, "doRecallTurn", "(LFerryTerminal$Sailing;)V"⟩
abbrev cX5_latestAboard : ByteArray := prog_1_method_26_code
def yX5_latestAboard : MethodName := ⟨RX5, "latestAboard", "(LFerryTerminal$Sailing;)LFerryTerminal$Ticket;"⟩
abbrev cX5_firstToMoveOn : ByteArray := prog_1_method_27_code
def yX5_firstToMoveOn : MethodName := ⟨RX5, "firstToMoveOn", "(LFerryTerminal$Sailing;)LFerryTerminal$Ticket;"⟩
abbrev cX5_nextOfLine : ByteArray := prog_1_method_28_code
def yX5_nextOfLine : MethodName := ⟨RX5, "nextOfLine", "(LFerryTerminal$Sailing;I)LFerryTerminal$Sailing;"⟩
abbrev cX5_depart : ByteArray := prog_1_method_29_code
def yX5_depart : MethodName := ⟨RX5, "depart", "(I)I"⟩
abbrev cX5_endTicket : ByteArray := prog_1_method_30_code
def yX5_endTicket : MethodName := ⟨RX5, "endTicket", "(LFerryTerminal$Ticket;)V"⟩
abbrev cX5_off : ByteArray := prog_1_method_31_code
def yX5_off : MethodName := ⟨RX5, "off", "(I)Z"⟩
abbrev cX5_shipOf : ByteArray := prog_1_method_32_code
def yX5_shipOf : MethodName := ⟨RX5, "shipOf", "(II)I"⟩
abbrev cX5_sailingOf : ByteArray := prog_1_method_33_code
def yX5_sailingOf : MethodName := ⟨RX5, "sailingOf", "(II)I"⟩
abbrev cX5_ticketsOf : ByteArray := prog_1_method_34_code
def yX5_ticketsOf : MethodName := ⟨RX5, "ticketsOf", "(LFerryTerminal$Sailing;)I"⟩
abbrev cX5_ticketOf : ByteArray := prog_1_method_35_code
def yX5_ticketOf : MethodName := ⟨RX5, "ticketOf", "(II)I"⟩
abbrev cX5_at : ByteArray := prog_1_method_36_code
def yX5_at : MethodName := ⟨RX5, "at", "(IIII)I"⟩
abbrev cX5_lane : ByteArray := prog_1_method_37_code
def yX5_lane : MethodName := ⟨RX5, "lane", "(IIII)I"⟩
abbrev cX5_log : ByteArray := prog_1_method_38_code
def yX5_log : MethodName := ⟨RX5, "log", "(II)I"⟩
abbrev cX5_count : ByteArray := prog_1_method_39_code
def yX5_count : MethodName := ⟨RX5, "count", "(I)I"⟩
abbrev cX5_total : ByteArray := prog_1_method_40_code
def yX5_total : MethodName := ⟨RX5, "total", "(II)I"⟩
abbrev cX5_shareOfTotal : ByteArray := prog_1_method_41_code
def yX5_shareOfTotal : MethodName := ⟨RX5, "shareOfTotal", "(LFerryTerminal$Ticket;I)I"⟩
abbrev cX5_kept : ByteArray := prog_1_method_42_code
def yX5_kept : MethodName := ⟨RX5, "kept", "()J"⟩
abbrev cX5_audit : ByteArray := prog_1_method_43_code
def yX5_audit : MethodName := ⟨RX5, "audit", "(III)I"⟩
abbrev cX5_firstWrong : ByteArray := prog_1_method_44_code
def yX5_firstWrong : MethodName := ⟨RX5, "firstWrong", "(LFerryTerminal$Alteration;)I"⟩
abbrev cX5_placeAgrees : ByteArray := prog_1_method_45_code
def yX5_placeAgrees : MethodName := ⟨RX5, "placeAgrees", "(LFerryTerminal$Alteration;LFerryTerminal$Ticket;)Z"⟩
abbrev cX5_overlap : ByteArray := prog_1_method_46_code
def yX5_overlap : MethodName := ⟨RX5, "overlap", "(LFerryTerminal$Alteration;LFerryTerminal$Ticket;LFerryTerminal$Ticket;)Z"⟩
abbrev cX5_cabinAgrees : ByteArray := prog_1_method_47_code
def yX5_cabinAgrees : MethodName := ⟨RX5, "cabinAgrees", "(LFerryTerminal$Alteration;LFerryTerminal$Ticket;)Z"⟩
abbrev cX5_minuteAgrees : ByteArray := prog_1_method_48_code
def yX5_minuteAgrees : MethodName := ⟨RX5, "minuteAgrees", "(LFerryTerminal$Alteration;LFerryTerminal$Ticket;)Z"⟩
abbrev cX5_moneyAgrees : ByteArray := prog_1_method_49_code
def yX5_moneyAgrees : MethodName := ⟨RX5, "moneyAgrees", "(LFerryTerminal$Alteration;LFerryTerminal$Ticket;)Z"⟩
abbrev cX5_within : ByteArray := prog_1_method_50_code
def yX5_within : MethodName := ⟨RX5, "within", "(III)Z"⟩
abbrev cX5_shipNumbered : ByteArray := prog_1_method_51_code
def yX5_shipNumbered : MethodName := ⟨RX5, "shipNumbered", "(I)LFerryTerminal$Ship;"⟩
abbrev cX5_sailingNumbered : ByteArray := prog_1_method_52_code
def yX5_sailingNumbered : MethodName := ⟨RX5, "sailingNumbered", "(I)LFerryTerminal$Sailing;"⟩
abbrev cX5_ticketNumbered : ByteArray := prog_1_method_53_code
def yX5_ticketNumbered : MethodName := ⟨RX5, "ticketNumbered", "(I)LFerryTerminal$Ticket;"⟩
def RX6 : String := "FerryTerminalModel"
def TX6 : u_T := fun k => match k with
  | 0 => ("FerryTerminalModel", "decks", "[I", true)
  | 1 => ("FerryTerminalModel", "lanes", "[I", true)
  | 2 => ("FerryTerminalModel", "lengths", "[I", true)
  | 3 => ("FerryTerminalModel", "half", "[Z", true)
  | 4 => ("FerryTerminalModel", "cabinShip", "[I", true)
  | 5 => ("FerryTerminalModel", "beds", "[I", true)
  | 6 => ("FerryTerminalModel", "ship", "[I", true)
  | 7 => ("FerryTerminalModel", "minute", "[I", true)
  | 8 => ("FerryTerminalModel", "line", "[I", true)
  | 9 => ("FerryTerminalModel", "how", "[I", true)
  | 10 => ("FerryTerminalModel", "done", "[I", true)
  | 11 => ("FerryTerminalModel", "recall", "[I", true)
  | 12 => ("FerryTerminalModel", "begun", "[I", true)
  | 13 => ("FerryTerminalModel", "stage", "[I", true)
  | 14 => ("FerryTerminalModel", "isOff", "[Z", true)
  | 15 => ("FerryTerminalModel", "ticket", "[I", true)
  | 16 => ("FerryTerminalModel", "boarded", "[I", true)
  | 17 => ("FerryTerminalModel", "logKind", "[I", true)
  | 18 => ("FerryTerminalModel", "logTicket", "[I", true)
  | 19 => ("FerryTerminalModel", "logSailing", "[I", true)
  | 20 => ("FerryTerminalModel", "ships", "I", false)
  | 21 => ("FerryTerminalModel", "cabins", "I", false)
  | 22 => ("FerryTerminalModel", "sailings", "I", false)
  | 23 => ("FerryTerminalModel", "tickets", "I", false)
  | 24 => ("FerryTerminalModel", "turns", "I", false)
  | 25 => ("FerryTerminalModel", "boardings", "I", false)
  | 26 => ("FerryTerminalModel", "covered", "[Z", true)
  | 27 => ("FerryTerminalModel", "free", "I", false)
  | 28 => ("FerryTerminalModel", "longest", "I", false)
  | 29 => ("FerryTerminalModel", "firstGap", "I", false)
  | _ => ("FerryTerminalModel", "about", "I", false)
def tyX6 : Nat → FieldType := fun k => match k with
  | 0 => .array .int
  | 1 => .array .int
  | 2 => .array .int
  | 3 => .array .boolean
  | 4 => .array .int
  | 5 => .array .int
  | 6 => .array .int
  | 7 => .array .int
  | 8 => .array .int
  | 9 => .array .int
  | 10 => .array .int
  | 11 => .array .int
  | 12 => .array .int
  | 13 => .array .int
  | 14 => .array .boolean
  | 15 => .array .int
  | 16 => .array .int
  | 17 => .array .int
  | 18 => .array .int
  | 19 => .array .int
  | 20 => .int
  | 21 => .int
  | 22 => .int
  | 23 => .int
  | 24 => .int
  | 25 => .int
  | 26 => .array .boolean
  | 27 => .int
  | 28 => .int
  | 29 => .int
  | _ => .int
abbrev wsX60 : List Cond := u_ws RX6 TX6 31
theorem nmX6 : ∀ a, a < 31 → ∀ b, b < 31 → a ≠ b → (TX6 a).2.1 ≠ (TX6 b).2.1 := by decide +kernel
theorem tyX6_ok : ∀ k, k < 31 → parseFieldDescriptor (TX6 k).2.2.1 = some (tyX6 k) := by decide +kernel
abbrev cX6_init : ByteArray := prog_8_method_1_code
def yX6_init : MethodName := ⟨RX6, "<init>", "()V"⟩
abbrev cX6_isIn : ByteArray := prog_8_method_2_code
def yX6_isIn : MethodName := ⟨RX6, "isIn", "(III)Z"⟩
abbrev cX6_of : ByteArray := prog_8_method_3_code
def yX6_of : MethodName := ⟨RX6, "of", "(II)I"⟩
abbrev cX6_put : ByteArray := prog_8_method_4_code
def yX6_put : MethodName := ⟨RX6, "put", "(III)V"⟩
abbrev cX6_isTicket : ByteArray := prog_8_method_5_code
def yX6_isTicket : MethodName := ⟨RX6, "isTicket", "(I)Z"⟩
abbrev cX6_isSailing : ByteArray := prog_8_method_6_code
def yX6_isSailing : MethodName := ⟨RX6, "isSailing", "(I)Z"⟩
abbrev cX6_isShip : ByteArray := prog_8_method_7_code
def yX6_isShip : MethodName := ⟨RX6, "isShip", "(I)Z"⟩
abbrev cX6_ship : ByteArray := prog_8_method_8_code
def yX6_ship : MethodName := ⟨RX6, "ship", "(IIIZ)I"⟩
abbrev cX6_cabin : ByteArray := prog_8_method_9_code
def yX6_cabin : MethodName := ⟨RX6, "cabin", "(II)I"⟩
abbrev cX6_sailing : ByteArray := prog_8_method_10_code
def yX6_sailing : MethodName := ⟨RX6, "sailing", "(III)I"⟩
abbrev cX6_isToGo : ByteArray := prog_8_method_11_code
def yX6_isToGo : MethodName := ⟨RX6, "isToGo", "(I)Z"⟩
abbrev cX6_book : ByteArray := prog_8_method_12_code
def yX6_book : MethodName := ⟨RX6, "book", "(IIII)I"⟩
abbrev cX6_arrive : ByteArray := prog_8_method_13_code
def yX6_arrive : MethodName := ⟨RX6, "arrive", "(II)Z"⟩
abbrev cX6_openOf : ByteArray := prog_8_method_14_code
def yX6_openOf : MethodName := ⟨RX6, "openOf", "(I)I"⟩
abbrev cX6_open : ByteArray := prog_8_method_15_code
def yX6_open : MethodName := ⟨RX6, "open", "(I)Z"⟩
abbrev cX6_recall : ByteArray := prog_8_method_16_code
def yX6_recall : MethodName := ⟨RX6, "recall", "(II)Z"⟩
abbrev cX6_lookAtRecall : ByteArray := prog_8_method_17_code
def yX6_lookAtRecall : MethodName := ⟨RX6, "lookAtRecall", "(I)V"⟩
abbrev cX6_isAboard : ByteArray := prog_8_method_18_code
def yX6_isAboard : MethodName := ⟨RX6, "isAboard", "(II)Z"⟩
abbrev cX6_covers : ByteArray := prog_8_method_19_code
def yX6_covers : MethodName := ⟨RX6, "covers", "(IIII)I"⟩
abbrev cX6_measure : ByteArray := prog_8_method_20_code
def yX6_measure : MethodName := ⟨RX6, "measure", "(IIIII)V"⟩
abbrev cX6_mayStand : ByteArray := prog_8_method_21_code
def yX6_mayStand : MethodName := ⟨RX6, "mayStand", "(IIIII)Z"⟩
abbrev cX6_boards : ByteArray := prog_8_method_22_code
def yX6_boards : MethodName := ⟨RX6, "boards", "(II)Z"⟩
abbrev cX6_comesOff : ByteArray := prog_8_method_23_code
def yX6_comesOff : MethodName := ⟨RX6, "comesOff", "(I)V"⟩
abbrev cX6_cabinFor : ByteArray := prog_8_method_24_code
def yX6_cabinFor : MethodName := ⟨RX6, "cabinFor", "(II)I"⟩
abbrev cX6_nextTurn : ByteArray := prog_8_method_25_code
def yX6_nextTurn : MethodName := ⟨RX6, "nextTurn", "(I)I"⟩
abbrev cX6_recallTurn : ByteArray := prog_8_method_26_code
def yX6_recallTurn : MethodName := ⟨RX6, "recallTurn", "(I)I"⟩
abbrev cX6_hasTurn : ByteArray := prog_8_method_27_code
def yX6_hasTurn : MethodName := ⟨RX6, "hasTurn", "(I)Z"⟩
abbrev cX6_isLate : ByteArray := prog_8_method_28_code
def yX6_isLate : MethodName := ⟨RX6, "isLate", "(II)Z"⟩
abbrev cX6_isAhead : ByteArray := prog_8_method_29_code
def yX6_isAhead : MethodName := ⟨RX6, "isAhead", "(III)Z"⟩
abbrev cX6_write : ByteArray := prog_8_method_30_code
def yX6_write : MethodName := ⟨RX6, "write", "(III)V"⟩
abbrev cX6_turn : ByteArray := prog_8_method_31_code
def yX6_turn : MethodName := ⟨RX6, "turn", "(I)Z"⟩
abbrev cX6_goesOn : ByteArray := prog_8_method_32_code
def yX6_goesOn : MethodName := ⟨RX6, "goesOn", "(II)V"⟩
abbrev cX6_goesAway : ByteArray := prog_8_method_33_code
def yX6_goesAway : MethodName := ⟨RX6, "goesAway", "(II)V"⟩
abbrev cX6_settle : ByteArray := prog_8_method_34_code
def yX6_settle : MethodName := ⟨RX6, "settle", "(I)I"⟩
abbrev cX6_depart : ByteArray := prog_8_method_35_code
def yX6_depart : MethodName := ⟨RX6, "depart", "(I)I"⟩
abbrev cX6_off : ByteArray := prog_8_method_36_code
def yX6_off : MethodName := ⟨RX6, "off", "(I)Z"⟩
abbrev cX6_shipOf : ByteArray := prog_8_method_37_code
def yX6_shipOf : MethodName := ⟨RX6, "shipOf", "(II)I"⟩
abbrev cX6_sailingOf : ByteArray := prog_8_method_38_code
def yX6_sailingOf : MethodName := ⟨RX6, "sailingOf", "(II)I"⟩
abbrev cX6_ticketOf : ByteArray := prog_8_method_39_code
def yX6_ticketOf : MethodName := ⟨RX6, "ticketOf", "(II)I"⟩
abbrev cX6_isLane : ByteArray := prog_8_method_40_code
def yX6_isLane : MethodName := ⟨RX6, "isLane", "(III)Z"⟩
abbrev cX6_at : ByteArray := prog_8_method_41_code
def yX6_at : MethodName := ⟨RX6, "at", "(IIII)I"⟩
abbrev cX6_lane : ByteArray := prog_8_method_42_code
def yX6_lane : MethodName := ⟨RX6, "lane", "(IIII)I"⟩
abbrev cX6_log : ByteArray := prog_8_method_43_code
def yX6_log : MethodName := ⟨RX6, "log", "(II)I"⟩
abbrev cX6_count : ByteArray := prog_8_method_44_code
def yX6_count : MethodName := ⟨RX6, "count", "(I)I"⟩
abbrev cX6_total : ByteArray := prog_8_method_45_code
def yX6_total : MethodName := ⟨RX6, "total", "(II)I"⟩
abbrev cX6_kept : ByteArray := prog_8_method_46_code
def yX6_kept : MethodName := ⟨RX6, "kept", "()J"⟩
abbrev cX6_audit : ByteArray := prog_8_method_47_code
def yX6_audit : MethodName := ⟨RX6, "audit", "(III)I"⟩
abbrev cX6_agrees : ByteArray := prog_8_method_48_code
def yX6_agrees : MethodName := ⟨RX6, "agrees", "(I)Z"⟩
abbrev cX6_isPlaceRight : ByteArray := prog_8_method_49_code
def yX6_isPlaceRight : MethodName := ⟨RX6, "isPlaceRight", "(III)Z"⟩
abbrev cX6_isCabinRight : ByteArray := prog_8_method_50_code
def yX6_isCabinRight : MethodName := ⟨RX6, "isCabinRight", "(III)Z"⟩
def RJ9 : String := "java/lang/Math"
def TJ9 : u_T := fun k => match k with
  | _ => ("", "", "", false)
def tyJ9 : Nat → FieldType := fun k => match k with
  | _ => .int
abbrev wsJ90 : List Cond := u_ws RJ9 TJ9 0
theorem nmJ9 : ∀ a, a < 0 → ∀ b, b < 0 → a ≠ b → (TJ9 a).2.1 ≠ (TJ9 b).2.1 := by decide +kernel
theorem tyJ9_ok : ∀ k, k < 0 → parseFieldDescriptor (TJ9 k).2.2.1 = some (tyJ9 k) := by decide +kernel
abbrev cJ9_abs_0f7a4 : ByteArray := prog_9_method_59_code
def yJ9_abs_0f7a4 : MethodName := ⟨RJ9, "abs", "(I)I"⟩
abbrev cJ9_max_7cf53 : ByteArray := prog_9_method_65_code
def yJ9_max_7cf53 : MethodName := ⟨RJ9, "max", "(II)I"⟩
abbrev cJ9_min_7cf53 : ByteArray := prog_9_method_69_code
def yJ9_min_7cf53 : MethodName := ⟨RJ9, "min", "(II)I"⟩
def RL : String := "FerryTerminalLaw"
abbrev cL_law : ByteArray := code
def yL_law : MethodName := ⟨RL, "law", "([I)Z"⟩
def wsX0_init : List Cond := .code yX0_init cX0_init 4 none :: ([.methodLink RX0 3 objectInit, .instanceMethod objectInit, .code objectInit ⟨#[0xb1]⟩ 1 none, .fieldLink RX0 9 "FerryTerminal$Alteration" "altered" "LFerryTerminal$Ticket;", .fieldLink RX0 15 "FerryTerminal$Alteration" "what" "I", .fieldLink RX0 19 "FerryTerminal$Alteration" "mask" "I"] ++ wsX00)
def wsX4_tell : List Cond := .code yX4_tell cX4_tell 2 (some .int) :: ([.fieldLink RX4 33 "FerryTerminal$Ticket" "trip" "LFerryTerminal$Sailing;", .fieldLink RX4 37 "FerryTerminal$Ticket" "length" "I", .fieldLink RX4 40 "FerryTerminal$Ticket" "height" "I", .fieldLink RX4 43 "FerryTerminal$Ticket" "wish" "I", .fieldLink RX4 9 "FerryTerminal$Ticket" "how" "I", .fieldLink RX4 15 "FerryTerminal$Ticket" "minute" "I", .fieldLink RX4 18 "FerryTerminal$Ticket" "deck" "I", .fieldLink RX4 21 "FerryTerminal$Ticket" "lane" "I", .fieldLink RX4 24 "FerryTerminal$Ticket" "place" "I", .fieldLink RX4 27 "FerryTerminal$Ticket" "cabin" "I", .fieldLink RX4 46 "FerryTerminal$Ticket" "paid" "I", .fieldLink RX4 57 "FerryTerminal$Ticket" "back" "I", .fieldLink RX4 60 "FerryTerminal$Ticket" "timesOn" "I"] ++ wsX40 ++ wsX20)
def wsX0_number : List Cond := .code yX0_number cX0_number 4 (some .int) :: ([.fieldLink RX0 9 "FerryTerminal$Alteration" "altered" "LFerryTerminal$Ticket;", .fieldLink RX0 15 "FerryTerminal$Alteration" "what" "I", .fieldLink RX0 19 "FerryTerminal$Alteration" "mask" "I", .instanceMethod yX4_tell, .initialized RX4, .selects RX4 yX4_tell yX4_tell, .code yX4_tell cX4_tell 2 (some .int), .fieldLink RX4 33 "FerryTerminal$Ticket" "trip" "LFerryTerminal$Sailing;", .fieldLink RX4 37 "FerryTerminal$Ticket" "length" "I", .fieldLink RX4 40 "FerryTerminal$Ticket" "height" "I", .fieldLink RX4 43 "FerryTerminal$Ticket" "wish" "I", .fieldLink RX4 9 "FerryTerminal$Ticket" "how" "I", .fieldLink RX4 15 "FerryTerminal$Ticket" "minute" "I", .fieldLink RX4 18 "FerryTerminal$Ticket" "deck" "I", .fieldLink RX4 21 "FerryTerminal$Ticket" "lane" "I", .fieldLink RX4 24 "FerryTerminal$Ticket" "place" "I", .fieldLink RX4 27 "FerryTerminal$Ticket" "cabin" "I", .fieldLink RX4 46 "FerryTerminal$Ticket" "paid" "I", .fieldLink RX4 57 "FerryTerminal$Ticket" "back" "I", .fieldLink RX4 60 "FerryTerminal$Ticket" "timesOn" "I"] ++ wsX00 ++ wsX40 ++ wsX20)
def wsX0_mayHaveCabin_r1 : List Cond := [Cond.methodLink RX0 28 yX0_number, Cond.instanceMethod yX0_number, Cond.selects RX0 yX0_number yX0_number, Cond.initialized RX0, Cond.code yX0_number cX0_number 4 (some .int), Cond.fieldLink RX0 9 "FerryTerminal$Alteration" "altered" "LFerryTerminal$Ticket;", Cond.fieldLink RX0 15 "FerryTerminal$Alteration" "what" "I", Cond.fieldLink RX0 19 "FerryTerminal$Alteration" "mask" "I", Cond.instanceMethod yX4_tell, Cond.initialized RX4, Cond.selects RX4 yX4_tell yX4_tell, Cond.code yX4_tell cX4_tell 2 (some .int), Cond.fieldLink RX4 33 "FerryTerminal$Ticket" "trip" "LFerryTerminal$Sailing;", Cond.fieldLink RX4 37 "FerryTerminal$Ticket" "length" "I", Cond.fieldLink RX4 40 "FerryTerminal$Ticket" "height" "I", Cond.fieldLink RX4 43 "FerryTerminal$Ticket" "wish" "I", Cond.fieldLink RX4 9 "FerryTerminal$Ticket" "how" "I", Cond.fieldLink RX4 15 "FerryTerminal$Ticket" "minute" "I", Cond.fieldLink RX4 18 "FerryTerminal$Ticket" "deck" "I", Cond.fieldLink RX4 21 "FerryTerminal$Ticket" "lane" "I", Cond.fieldLink RX4 24 "FerryTerminal$Ticket" "place" "I", Cond.fieldLink RX4 27 "FerryTerminal$Ticket" "cabin" "I", Cond.fieldLink RX4 46 "FerryTerminal$Ticket" "paid" "I", Cond.fieldLink RX4 57 "FerryTerminal$Ticket" "back" "I"]
def wsX0_mayHaveCabin_r2 : List Cond := [Cond.fieldLink RX4 60 "FerryTerminal$Ticket" "timesOn" "I"]
def wsX0_mayHaveCabin : List Cond := .code yX0_mayHaveCabin cX0_mayHaveCabin 3 (some .boolean) :: ((wsX0_mayHaveCabin_r1 ++ wsX0_mayHaveCabin_r2) ++ wsX00 ++ wsX40 ++ wsX20)
def wsX1_init : List Cond := .code yX1_init cX1_init 3 none :: ([.methodLink RX1 1 objectInit, .instanceMethod objectInit, .code objectInit ⟨#[0xb1]⟩ 1 none, .fieldLink RX1 7 "FerryTerminal$Cabin" "vessel" "LFerryTerminal$Ship;", .fieldLink RX1 13 "FerryTerminal$Cabin" "beds" "I"] ++ wsX10)
def wsX2_init : List Cond := .code yX2_init cX2_init 5 none :: ([.methodLink RX2 3 objectInit, .instanceMethod objectInit, .code objectInit ⟨#[0xb1]⟩ 1 none, .fieldLink RX2 9 "FerryTerminal$Sailing" "how" "I", .fieldLink RX2 15 "FerryTerminal$Sailing" "recallIn" "I", .fieldLink RX2 18 "FerryTerminal$Sailing" "number" "I", .fieldLink RX2 21 "FerryTerminal$Sailing" "vessel" "LFerryTerminal$Ship;", .fieldLink RX2 25 "FerryTerminal$Sailing" "minute" "I", .fieldLink RX2 28 "FerryTerminal$Sailing" "line" "I"] ++ wsX20)
def wsX2_isPlannedOrOpen : List Cond := .code yX2_isPlannedOrOpen cX2_isPlannedOrOpen 1 (some .boolean) :: ([.fieldLink RX2 9 "FerryTerminal$Sailing" "how" "I"] ++ wsX20)
def wsX2_takesTickets : List Cond := .code yX2_takesTickets cX2_takesTickets 1 (some .boolean) :: ([.fieldLink RX2 15 "FerryTerminal$Sailing" "recallIn" "I", .methodLink RX2 31 yX2_isPlannedOrOpen, .instanceMethod yX2_isPlannedOrOpen, .selects RX2 yX2_isPlannedOrOpen yX2_isPlannedOrOpen, .initialized RX2, .code yX2_isPlannedOrOpen cX2_isPlannedOrOpen 1 (some .boolean), .fieldLink RX2 9 "FerryTerminal$Sailing" "how" "I"] ++ wsX20)
def wsX3_init : List Cond := .code yX3_init cX3_init 6 none :: ([.methodLink RX3 3 objectInit, .instanceMethod objectInit, .code objectInit ⟨#[0xb1]⟩ 1 none, .fieldLink RX3 9 "FerryTerminal$Ship" "number" "I", .fieldLink RX3 15 "FerryTerminal$Ship" "decks" "I", .fieldLink RX3 18 "FerryTerminal$Ship" "lanes" "I", .fieldLink RX3 21 "FerryTerminal$Ship" "length" "I", .fieldLink RX3 24 "FerryTerminal$Ship" "half" "Z", .classLink RX3 28 RX4, .fieldLink RX3 30 "FerryTerminal$Ship" "firsts" "[LFerryTerminal$Ticket;"] ++ wsX30)
def wsX3_hasLane : List Cond := .code yX3_hasLane cX3_hasLane 3 (some .boolean) :: ([.fieldLink RX3 15 "FerryTerminal$Ship" "decks" "I", .fieldLink RX3 18 "FerryTerminal$Ship" "lanes" "I"] ++ wsX30)
def wsX3_nearestBow : List Cond := .code yX3_nearestBow cX3_nearestBow 3 (some (.object "FerryTerminal$Ticket")) :: ([.fieldLink RX3 30 "FerryTerminal$Ship" "firsts" "[LFerryTerminal$Ticket;", .fieldLink RX3 18 "FerryTerminal$Ship" "lanes" "I", .methodLink RX3 34 yX3_hasLane, .instanceMethod yX3_hasLane, .selects RX3 yX3_hasLane yX3_hasLane, .initialized RX3, .code yX3_hasLane cX3_hasLane 3 (some .boolean), .fieldLink RX3 15 "FerryTerminal$Ship" "decks" "I"] ++ wsX30)
def wsX3_freePlaces : List Cond := .code yX3_freePlaces cX3_freePlaces 5 (some .int) :: ([.fieldLink RX3 21 "FerryTerminal$Ship" "length" "I", .methodLink RX3 38 yX3_nearestBow, .instanceMethod yX3_nearestBow, .selects RX3 yX3_nearestBow yX3_nearestBow, .initialized RX3, .code yX3_nearestBow cX3_nearestBow 3 (some (.object "FerryTerminal$Ticket")), .fieldLink RX3 30 "FerryTerminal$Ship" "firsts" "[LFerryTerminal$Ticket;", .fieldLink RX3 18 "FerryTerminal$Ship" "lanes" "I", .methodLink RX3 34 yX3_hasLane, .instanceMethod yX3_hasLane, .selects RX3 yX3_hasLane yX3_hasLane, .code yX3_hasLane cX3_hasLane 3 (some .boolean), .fieldLink RX3 15 "FerryTerminal$Ship" "decks" "I"] ++ wsX30 ++ wsX40)
def wsX3_longestGap : List Cond := .code yX3_longestGap cX3_longestGap 6 (some .int) :: ([.methodLink RX3 50 Lib.Math.max.name, .static Lib.Math.max.name, .initialized "java/lang/Math", .code Lib.Math.max.name Lib.Math.max.code 2 (some .int), .fieldLink RX3 21 "FerryTerminal$Ship" "length" "I", .methodLink RX3 38 yX3_nearestBow, .instanceMethod yX3_nearestBow, .selects RX3 yX3_nearestBow yX3_nearestBow, .initialized RX3, .code yX3_nearestBow cX3_nearestBow 3 (some (.object "FerryTerminal$Ticket")), .fieldLink RX3 30 "FerryTerminal$Ship" "firsts" "[LFerryTerminal$Ticket;", .fieldLink RX3 18 "FerryTerminal$Ship" "lanes" "I", .methodLink RX3 34 yX3_hasLane, .instanceMethod yX3_hasLane, .selects RX3 yX3_hasLane yX3_hasLane, .code yX3_hasLane cX3_hasLane 3 (some .boolean), .fieldLink RX3 15 "FerryTerminal$Ship" "decks" "I"] ++ wsX40 ++ wsX30)
def wsX3_firstGap : List Cond := .code yX3_firstGap cX3_firstGap 6 (some .int) :: ([.fieldLink RX3 21 "FerryTerminal$Ship" "length" "I", .methodLink RX3 38 yX3_nearestBow, .instanceMethod yX3_nearestBow, .selects RX3 yX3_nearestBow yX3_nearestBow, .initialized RX3, .code yX3_nearestBow cX3_nearestBow 3 (some (.object "FerryTerminal$Ticket")), .fieldLink RX3 30 "FerryTerminal$Ship" "firsts" "[LFerryTerminal$Ticket;", .fieldLink RX3 18 "FerryTerminal$Ship" "lanes" "I", .methodLink RX3 34 yX3_hasLane, .instanceMethod yX3_hasLane, .selects RX3 yX3_hasLane yX3_hasLane, .code yX3_hasLane cX3_hasLane 3 (some .boolean), .fieldLink RX3 15 "FerryTerminal$Ship" "decks" "I"] ++ wsX40 ++ wsX30)
def wsX3_tallStandsUnder : List Cond := .code yX3_tallStandsUnder cX3_tallStandsUnder 3 (some .boolean) :: ([.methodLink RX3 38 yX3_nearestBow, .instanceMethod yX3_nearestBow, .selects RX3 yX3_nearestBow yX3_nearestBow, .initialized RX3, .code yX3_nearestBow cX3_nearestBow 3 (some (.object "FerryTerminal$Ticket")), .fieldLink RX3 30 "FerryTerminal$Ship" "firsts" "[LFerryTerminal$Ticket;", .fieldLink RX3 18 "FerryTerminal$Ship" "lanes" "I", .methodLink RX3 34 yX3_hasLane, .instanceMethod yX3_hasLane, .selects RX3 yX3_hasLane yX3_hasLane, .code yX3_hasLane cX3_hasLane 3 (some .boolean), .fieldLink RX3 15 "FerryTerminal$Ship" "decks" "I"] ++ wsX40 ++ wsX30)
def wsX3_somethingOnDeckOne : List Cond := .code yX3_somethingOnDeckOne cX3_somethingOnDeckOne 2 (some .boolean) :: ([.fieldLink RX3 18 "FerryTerminal$Ship" "lanes" "I", .methodLink RX3 38 yX3_nearestBow, .instanceMethod yX3_nearestBow, .selects RX3 yX3_nearestBow yX3_nearestBow, .initialized RX3, .code yX3_nearestBow cX3_nearestBow 3 (some (.object "FerryTerminal$Ticket")), .fieldLink RX3 30 "FerryTerminal$Ship" "firsts" "[LFerryTerminal$Ticket;", .methodLink RX3 34 yX3_hasLane, .instanceMethod yX3_hasLane, .selects RX3 yX3_hasLane yX3_hasLane, .code yX3_hasLane cX3_hasLane 3 (some .boolean), .fieldLink RX3 15 "FerryTerminal$Ship" "decks" "I"] ++ wsX30)
def wsX3_mayStand : List Cond := .code yX3_mayStand cX3_mayStand 5 (some .boolean) :: ([.fieldLink RX3 24 "FerryTerminal$Ship" "half" "Z", .methodLink RX3 56 yX3_tallStandsUnder, .instanceMethod yX3_tallStandsUnder, .selects RX3 yX3_tallStandsUnder yX3_tallStandsUnder, .initialized RX3, .code yX3_tallStandsUnder cX3_tallStandsUnder 3 (some .boolean), .methodLink RX3 38 yX3_nearestBow, .instanceMethod yX3_nearestBow, .selects RX3 yX3_nearestBow yX3_nearestBow, .code yX3_nearestBow cX3_nearestBow 3 (some (.object "FerryTerminal$Ticket")), .fieldLink RX3 30 "FerryTerminal$Ship" "firsts" "[LFerryTerminal$Ticket;", .fieldLink RX3 18 "FerryTerminal$Ship" "lanes" "I", .methodLink RX3 34 yX3_hasLane, .instanceMethod yX3_hasLane, .selects RX3 yX3_hasLane yX3_hasLane, .code yX3_hasLane cX3_hasLane 3 (some .boolean), .fieldLink RX3 15 "FerryTerminal$Ship" "decks" "I", .methodLink RX3 60 yX3_somethingOnDeckOne, .instanceMethod yX3_somethingOnDeckOne, .selects RX3 yX3_somethingOnDeckOne yX3_somethingOnDeckOne, .code yX3_somethingOnDeckOne cX3_somethingOnDeckOne 2 (some .boolean)] ++ wsX30 ++ wsX40)
def wsX3_nextAhead : List Cond := .code yX3_nextAhead cX3_nextAhead 4 (some (.object "FerryTerminal$Ticket")) :: ([.methodLink RX3 38 yX3_nearestBow, .instanceMethod yX3_nearestBow, .selects RX3 yX3_nearestBow yX3_nearestBow, .initialized RX3, .code yX3_nearestBow cX3_nearestBow 3 (some (.object "FerryTerminal$Ticket")), .fieldLink RX3 30 "FerryTerminal$Ship" "firsts" "[LFerryTerminal$Ticket;", .fieldLink RX3 18 "FerryTerminal$Ship" "lanes" "I", .methodLink RX3 34 yX3_hasLane, .instanceMethod yX3_hasLane, .selects RX3 yX3_hasLane yX3_hasLane, .code yX3_hasLane cX3_hasLane 3 (some .boolean), .fieldLink RX3 15 "FerryTerminal$Ship" "decks" "I"] ++ wsX40 ++ wsX30)
def wsX3_chain : List Cond := .code yX3_chain cX3_chain 4 none :: ([.fieldLink RX3 30 "FerryTerminal$Ship" "firsts" "[LFerryTerminal$Ticket;", .fieldLink RX3 18 "FerryTerminal$Ship" "lanes" "I", .methodLink RX3 34 yX3_hasLane, .instanceMethod yX3_hasLane, .selects RX3 yX3_hasLane yX3_hasLane, .initialized RX3, .code yX3_hasLane cX3_hasLane 3 (some .boolean), .fieldLink RX3 15 "FerryTerminal$Ship" "decks" "I"] ++ wsX40 ++ wsX30)
def wsX3_putInPlace : List Cond := .code yX3_putInPlace cX3_putInPlace 6 none :: ([.fieldLink RX3 95 "FerryTerminal$Ship" "standing" "I", .methodLink RX3 87 yX3_nextAhead, .instanceMethod yX3_nextAhead, .selects RX3 yX3_nextAhead yX3_nextAhead, .initialized RX3, .code yX3_nextAhead cX3_nextAhead 4 (some (.object "FerryTerminal$Ticket")), .methodLink RX3 38 yX3_nearestBow, .instanceMethod yX3_nearestBow, .selects RX3 yX3_nearestBow yX3_nearestBow, .code yX3_nearestBow cX3_nearestBow 3 (some (.object "FerryTerminal$Ticket")), .fieldLink RX3 30 "FerryTerminal$Ship" "firsts" "[LFerryTerminal$Ticket;", .fieldLink RX3 18 "FerryTerminal$Ship" "lanes" "I", .methodLink RX3 34 yX3_hasLane, .instanceMethod yX3_hasLane, .selects RX3 yX3_hasLane yX3_hasLane, .code yX3_hasLane cX3_hasLane 3 (some .boolean), .fieldLink RX3 15 "FerryTerminal$Ship" "decks" "I", .methodLink RX3 91 yX3_chain, .instanceMethod yX3_chain, .selects RX3 yX3_chain yX3_chain, .code yX3_chain cX3_chain 4 none] ++ wsX40 ++ wsX30)
def wsX3_placeByDeckRule_r1 : List Cond := [Cond.fieldLink RX3 15 "FerryTerminal$Ship" "decks" "I", Cond.fieldLink RX3 18 "FerryTerminal$Ship" "lanes" "I", Cond.methodLink RX3 66 yX3_freePlaces, Cond.instanceMethod yX3_freePlaces, Cond.selects RX3 yX3_freePlaces yX3_freePlaces, Cond.initialized RX3, Cond.code yX3_freePlaces cX3_freePlaces 5 (some .int), Cond.fieldLink RX3 21 "FerryTerminal$Ship" "length" "I", Cond.methodLink RX3 38 yX3_nearestBow, Cond.instanceMethod yX3_nearestBow, Cond.selects RX3 yX3_nearestBow yX3_nearestBow, Cond.code yX3_nearestBow cX3_nearestBow 3 (some (.object "FerryTerminal$Ticket")), Cond.fieldLink RX3 30 "FerryTerminal$Ship" "firsts" "[LFerryTerminal$Ticket;", Cond.methodLink RX3 34 yX3_hasLane, Cond.instanceMethod yX3_hasLane, Cond.selects RX3 yX3_hasLane yX3_hasLane, Cond.code yX3_hasLane cX3_hasLane 3 (some .boolean), Cond.methodLink RX3 69 yX3_mayStand, Cond.instanceMethod yX3_mayStand, Cond.selects RX3 yX3_mayStand yX3_mayStand, Cond.code yX3_mayStand cX3_mayStand 5 (some .boolean), Cond.fieldLink RX3 24 "FerryTerminal$Ship" "half" "Z", Cond.methodLink RX3 56 yX3_tallStandsUnder, Cond.instanceMethod yX3_tallStandsUnder]
def wsX3_placeByDeckRule_r2 : List Cond := [Cond.selects RX3 yX3_tallStandsUnder yX3_tallStandsUnder, Cond.code yX3_tallStandsUnder cX3_tallStandsUnder 3 (some .boolean), Cond.methodLink RX3 60 yX3_somethingOnDeckOne, Cond.instanceMethod yX3_somethingOnDeckOne, Cond.selects RX3 yX3_somethingOnDeckOne yX3_somethingOnDeckOne, Cond.code yX3_somethingOnDeckOne cX3_somethingOnDeckOne 2 (some .boolean), Cond.methodLink RX3 73 yX3_firstGap, Cond.instanceMethod yX3_firstGap, Cond.selects RX3 yX3_firstGap yX3_firstGap, Cond.code yX3_firstGap cX3_firstGap 6 (some .int), Cond.methodLink RX3 77 yX3_putInPlace, Cond.instanceMethod yX3_putInPlace, Cond.selects RX3 yX3_putInPlace yX3_putInPlace, Cond.code yX3_putInPlace cX3_putInPlace 6 none, Cond.fieldLink RX3 95 "FerryTerminal$Ship" "standing" "I", Cond.methodLink RX3 87 yX3_nextAhead, Cond.instanceMethod yX3_nextAhead, Cond.selects RX3 yX3_nextAhead yX3_nextAhead, Cond.code yX3_nextAhead cX3_nextAhead 4 (some (.object "FerryTerminal$Ticket")), Cond.methodLink RX3 91 yX3_chain, Cond.instanceMethod yX3_chain, Cond.selects RX3 yX3_chain yX3_chain, Cond.code yX3_chain cX3_chain 4 none]
def wsX3_placeByDeckRule : List Cond := .code yX3_placeByDeckRule cX3_placeByDeckRule 8 (some .boolean) :: ((wsX3_placeByDeckRule_r1 ++ wsX3_placeByDeckRule_r2) ++ wsX30 ++ wsX40)
def wsX3_clearPlace : List Cond := .code yX3_clearPlace cX3_clearPlace 2 none :: ([.fieldLink RX3 95 "FerryTerminal$Ship" "standing" "I", .methodLink RX3 87 yX3_nextAhead, .instanceMethod yX3_nextAhead, .selects RX3 yX3_nextAhead yX3_nextAhead, .initialized RX3, .code yX3_nextAhead cX3_nextAhead 4 (some (.object "FerryTerminal$Ticket")), .methodLink RX3 38 yX3_nearestBow, .instanceMethod yX3_nearestBow, .selects RX3 yX3_nearestBow yX3_nearestBow, .code yX3_nearestBow cX3_nearestBow 3 (some (.object "FerryTerminal$Ticket")), .fieldLink RX3 30 "FerryTerminal$Ship" "firsts" "[LFerryTerminal$Ticket;", .fieldLink RX3 18 "FerryTerminal$Ship" "lanes" "I", .methodLink RX3 34 yX3_hasLane, .instanceMethod yX3_hasLane, .selects RX3 yX3_hasLane yX3_hasLane, .code yX3_hasLane cX3_hasLane 3 (some .boolean), .fieldLink RX3 15 "FerryTerminal$Ship" "decks" "I", .methodLink RX3 91 yX3_chain, .instanceMethod yX3_chain, .selects RX3 yX3_chain yX3_chain, .code yX3_chain cX3_chain 4 none] ++ wsX40 ++ wsX30)
def wsX4_init : List Cond := .code yX4_init cX4_init 7 none :: ([.methodLink RX4 3 objectInit, .instanceMethod objectInit, .code objectInit ⟨#[0xb1]⟩ 1 none, .fieldLink RX4 9 "FerryTerminal$Ticket" "how" "I", .fieldLink RX4 15 "FerryTerminal$Ticket" "minute" "I", .fieldLink RX4 18 "FerryTerminal$Ticket" "deck" "I", .fieldLink RX4 21 "FerryTerminal$Ticket" "lane" "I", .fieldLink RX4 24 "FerryTerminal$Ticket" "place" "I", .fieldLink RX4 27 "FerryTerminal$Ticket" "cabin" "I", .fieldLink RX4 30 "FerryTerminal$Ticket" "number" "I", .fieldLink RX4 33 "FerryTerminal$Ticket" "trip" "LFerryTerminal$Sailing;", .fieldLink RX4 37 "FerryTerminal$Ticket" "length" "I", .fieldLink RX4 40 "FerryTerminal$Ticket" "height" "I", .fieldLink RX4 43 "FerryTerminal$Ticket" "wish" "I", .fieldLink RX4 46 "FerryTerminal$Ticket" "paid" "I"] ++ wsX40)
def wsX4_isLate : List Cond := .code yX4_isLate cX4_isLate 1 (some .boolean) :: ([.fieldLink RX4 15 "FerryTerminal$Ticket" "minute" "I", .fieldLink RX4 33 "FerryTerminal$Ticket" "trip" "LFerryTerminal$Sailing;"] ++ wsX40 ++ wsX20)
def wsX4_boardsAheadOf : List Cond := .code yX4_boardsAheadOf cX4_boardsAheadOf 2 (some .boolean) :: ([.fieldLink RX4 40 "FerryTerminal$Ticket" "height" "I", .fieldLink RX4 30 "FerryTerminal$Ticket" "number" "I", .methodLink RX4 52 yX4_isLate, .instanceMethod yX4_isLate, .selects RX4 yX4_isLate yX4_isLate, .initialized RX4, .code yX4_isLate cX4_isLate 1 (some .boolean), .fieldLink RX4 15 "FerryTerminal$Ticket" "minute" "I", .fieldLink RX4 33 "FerryTerminal$Ticket" "trip" "LFerryTerminal$Sailing;"] ++ wsX40 ++ wsX20)
def wsX5_init : List Cond := .code yX5_init cX5_init 1 none :: ([.methodLink RX5 1 objectInit, .instanceMethod objectInit, .code objectInit ⟨#[0xb1]⟩ 1 none, .classLink RX5 9 RX3, .fieldLink RX5 11 "FerryTerminal" "ships" "[LFerryTerminal$Ship;", .classLink RX5 15 RX1, .fieldLink RX5 17 "FerryTerminal" "cabins" "[LFerryTerminal$Cabin;", .classLink RX5 21 RX2, .fieldLink RX5 23 "FerryTerminal" "sailings" "[LFerryTerminal$Sailing;", .classLink RX5 27 RX4, .fieldLink RX5 29 "FerryTerminal" "tickets" "[LFerryTerminal$Ticket;", .arrayClass .int, .fieldLink RX5 33 "FerryTerminal" "logKinds" "[I", .fieldLink RX5 37 "FerryTerminal" "logTickets" "[I", .fieldLink RX5 40 "FerryTerminal" "logSailings" "[I"] ++ wsX50)
def wsX5_within : List Cond := .code yX5_within cX5_within 3 (some .boolean) :: ([])
def wsX5_ship : List Cond := .code yX5_ship cX5_ship 5 (some .int) :: ([.fieldLink RX5 43 "FerryTerminal" "shipCount" "I", .fieldLink RX5 11 "FerryTerminal" "ships" "[LFerryTerminal$Ship;", .classLink RX5 9 RX3, .instantiable RX3 8, .initialized RX3, .methodLink RX5 47 yX5_within, .static yX5_within, .initialized RX5, .code yX5_within cX5_within 3 (some .boolean), .instanceMethod yX3_init, .code yX3_init cX3_init 6 none, .methodLink RX3 3 objectInit, .instanceMethod objectInit, .code objectInit ⟨#[0xb1]⟩ 1 none, .fieldLink RX3 9 "FerryTerminal$Ship" "number" "I", .fieldLink RX3 15 "FerryTerminal$Ship" "decks" "I", .fieldLink RX3 18 "FerryTerminal$Ship" "lanes" "I", .fieldLink RX3 21 "FerryTerminal$Ship" "length" "I", .fieldLink RX3 24 "FerryTerminal$Ship" "half" "Z", .classLink RX3 28 RX4, .fieldLink RX3 30 "FerryTerminal$Ship" "firsts" "[LFerryTerminal$Ticket;"] ++ wsX50 ++ wsX30)
def wsX5_shipNumbered : List Cond := .code yX5_shipNumbered cX5_shipNumbered 2 (some (.object "FerryTerminal$Ship")) :: ([.fieldLink RX5 43 "FerryTerminal" "shipCount" "I", .fieldLink RX5 11 "FerryTerminal" "ships" "[LFerryTerminal$Ship;", .methodLink RX5 47 yX5_within, .static yX5_within, .initialized RX5, .code yX5_within cX5_within 3 (some .boolean)] ++ wsX50)
def wsX5_cabin : List Cond := .code yX5_cabin cX5_cabin 4 (some .int) :: ([.fieldLink RX5 58 "FerryTerminal" "cabinCount" "I", .fieldLink RX5 17 "FerryTerminal" "cabins" "[LFerryTerminal$Cabin;", .classLink RX5 15 RX1, .instantiable RX1 3, .initialized RX1, .methodLink RX5 54 yX5_shipNumbered, .instanceMethod yX5_shipNumbered, .selects RX5 yX5_shipNumbered yX5_shipNumbered, .initialized RX5, .code yX5_shipNumbered cX5_shipNumbered 2 (some (.object "FerryTerminal$Ship")), .fieldLink RX5 43 "FerryTerminal" "shipCount" "I", .fieldLink RX5 11 "FerryTerminal" "ships" "[LFerryTerminal$Ship;", .methodLink RX5 47 yX5_within, .static yX5_within, .code yX5_within cX5_within 3 (some .boolean), .instanceMethod yX1_init, .code yX1_init cX1_init 3 none, .methodLink RX1 1 objectInit, .instanceMethod objectInit, .code objectInit ⟨#[0xb1]⟩ 1 none, .fieldLink RX1 7 "FerryTerminal$Cabin" "vessel" "LFerryTerminal$Ship;", .fieldLink RX1 13 "FerryTerminal$Cabin" "beds" "I"] ++ wsX50 ++ wsX10 ++ wsX30)
def wsX5_liesTooNear : List Cond := .code yX5_liesTooNear cX5_liesTooNear 5 (some .boolean) :: ([.fieldLink RX5 65 "FerryTerminal" "sailingCount" "I", .fieldLink RX5 23 "FerryTerminal" "sailings" "[LFerryTerminal$Sailing;", .methodLink RX5 86 Lib.Math.abs.name, .static Lib.Math.abs.name, .initialized "java/lang/Math", .code Lib.Math.abs.name Lib.Math.abs.code 1 (some .int)] ++ wsX50 ++ wsX20)
def wsX5_sailing_r1 : List Cond := [Cond.fieldLink RX5 65 "FerryTerminal" "sailingCount" "I", Cond.fieldLink RX5 23 "FerryTerminal" "sailings" "[LFerryTerminal$Sailing;", Cond.constant RX5 68 (100000), Cond.classLink RX5 21 RX2, Cond.instantiable RX2 9, Cond.initialized RX2, Cond.methodLink RX5 54 yX5_shipNumbered, Cond.instanceMethod yX5_shipNumbered, Cond.selects RX5 yX5_shipNumbered yX5_shipNumbered, Cond.initialized RX5, Cond.code yX5_shipNumbered cX5_shipNumbered 2 (some (.object "FerryTerminal$Ship")), Cond.fieldLink RX5 43 "FerryTerminal" "shipCount" "I", Cond.fieldLink RX5 11 "FerryTerminal" "ships" "[LFerryTerminal$Ship;", Cond.methodLink RX5 47 yX5_within, Cond.static yX5_within, Cond.code yX5_within cX5_within 3 (some .boolean), Cond.methodLink RX5 69 yX5_liesTooNear, Cond.instanceMethod yX5_liesTooNear, Cond.selects RX5 yX5_liesTooNear yX5_liesTooNear, Cond.code yX5_liesTooNear cX5_liesTooNear 5 (some .boolean), Cond.methodLink RX5 86 Lib.Math.abs.name, Cond.static Lib.Math.abs.name, Cond.initialized "java/lang/Math", Cond.code Lib.Math.abs.name Lib.Math.abs.code 1 (some .int)]
def wsX5_sailing_r2 : List Cond := [Cond.instanceMethod yX2_init, Cond.code yX2_init cX2_init 5 none, Cond.methodLink RX2 3 objectInit, Cond.instanceMethod objectInit, Cond.code objectInit ⟨#[0xb1]⟩ 1 none, Cond.fieldLink RX2 9 "FerryTerminal$Sailing" "how" "I", Cond.fieldLink RX2 15 "FerryTerminal$Sailing" "recallIn" "I", Cond.fieldLink RX2 18 "FerryTerminal$Sailing" "number" "I", Cond.fieldLink RX2 21 "FerryTerminal$Sailing" "vessel" "LFerryTerminal$Ship;", Cond.fieldLink RX2 25 "FerryTerminal$Sailing" "minute" "I", Cond.fieldLink RX2 28 "FerryTerminal$Sailing" "line" "I"]
def wsX5_sailing : List Cond := .code yX5_sailing cX5_sailing 5 (some .int) :: ((wsX5_sailing_r1 ++ wsX5_sailing_r2) ++ wsX50 ++ wsX20)
def wsX5_sailingNumbered : List Cond := .code yX5_sailingNumbered cX5_sailingNumbered 2 (some (.object "FerryTerminal$Sailing")) :: ([.fieldLink RX5 65 "FerryTerminal" "sailingCount" "I", .fieldLink RX5 23 "FerryTerminal" "sailings" "[LFerryTerminal$Sailing;", .methodLink RX5 47 yX5_within, .static yX5_within, .initialized RX5, .code yX5_within cX5_within 3 (some .boolean)] ++ wsX50)
def wsX5_fare : List Cond := .code yX5_fare cX5_fare 5 (some .int) :: ([])
def wsX5_book_r1 : List Cond := [Cond.fieldLink RX5 100 "FerryTerminal" "ticketCount" "I", Cond.fieldLink RX5 29 "FerryTerminal" "tickets" "[LFerryTerminal$Ticket;", Cond.classLink RX5 27 RX4, Cond.instantiable RX4 16, Cond.initialized RX4, Cond.methodLink RX5 92 yX5_sailingNumbered, Cond.instanceMethod yX5_sailingNumbered, Cond.selects RX5 yX5_sailingNumbered yX5_sailingNumbered, Cond.initialized RX5, Cond.code yX5_sailingNumbered cX5_sailingNumbered 2 (some (.object "FerryTerminal$Sailing")), Cond.fieldLink RX5 65 "FerryTerminal" "sailingCount" "I", Cond.fieldLink RX5 23 "FerryTerminal" "sailings" "[LFerryTerminal$Sailing;", Cond.methodLink RX5 47 yX5_within, Cond.static yX5_within, Cond.code yX5_within cX5_within 3 (some .boolean), Cond.instanceMethod yX2_takesTickets, Cond.initialized RX2, Cond.selects RX2 yX2_takesTickets yX2_takesTickets, Cond.code yX2_takesTickets cX2_takesTickets 1 (some .boolean), Cond.fieldLink RX2 15 "FerryTerminal$Sailing" "recallIn" "I", Cond.methodLink RX2 31 yX2_isPlannedOrOpen, Cond.instanceMethod yX2_isPlannedOrOpen, Cond.selects RX2 yX2_isPlannedOrOpen yX2_isPlannedOrOpen, Cond.code yX2_isPlannedOrOpen cX2_isPlannedOrOpen 1 (some .boolean)]
def wsX5_book_r2 : List Cond := [Cond.fieldLink RX2 9 "FerryTerminal$Sailing" "how" "I", Cond.methodLink RX5 109 yX5_fare, Cond.static yX5_fare, Cond.code yX5_fare cX5_fare 5 (some .int), Cond.instanceMethod yX4_init, Cond.code yX4_init cX4_init 7 none, Cond.methodLink RX4 3 objectInit, Cond.instanceMethod objectInit, Cond.code objectInit ⟨#[0xb1]⟩ 1 none, Cond.fieldLink RX4 9 "FerryTerminal$Ticket" "how" "I", Cond.fieldLink RX4 15 "FerryTerminal$Ticket" "minute" "I", Cond.fieldLink RX4 18 "FerryTerminal$Ticket" "deck" "I", Cond.fieldLink RX4 21 "FerryTerminal$Ticket" "lane" "I", Cond.fieldLink RX4 24 "FerryTerminal$Ticket" "place" "I", Cond.fieldLink RX4 27 "FerryTerminal$Ticket" "cabin" "I", Cond.fieldLink RX4 30 "FerryTerminal$Ticket" "number" "I", Cond.fieldLink RX4 33 "FerryTerminal$Ticket" "trip" "LFerryTerminal$Sailing;", Cond.fieldLink RX4 37 "FerryTerminal$Ticket" "length" "I", Cond.fieldLink RX4 40 "FerryTerminal$Ticket" "height" "I", Cond.fieldLink RX4 43 "FerryTerminal$Ticket" "wish" "I", Cond.fieldLink RX4 46 "FerryTerminal$Ticket" "paid" "I"]
def wsX5_book : List Cond := .code yX5_book cX5_book 7 (some .int) :: ((wsX5_book_r1 ++ wsX5_book_r2) ++ wsX50 ++ wsX20 ++ wsX30 ++ wsX40)
def wsX5_ticketNumbered : List Cond := .code yX5_ticketNumbered cX5_ticketNumbered 2 (some (.object "FerryTerminal$Ticket")) :: ([.fieldLink RX5 100 "FerryTerminal" "ticketCount" "I", .fieldLink RX5 29 "FerryTerminal" "tickets" "[LFerryTerminal$Ticket;", .methodLink RX5 47 yX5_within, .static yX5_within, .initialized RX5, .code yX5_within cX5_within 3 (some .boolean)] ++ wsX50)
def wsX5_arrive : List Cond := .code yX5_arrive cX5_arrive 4 (some .boolean) :: ([.constant RX5 121 (200000), .methodLink RX5 116 yX5_ticketNumbered, .instanceMethod yX5_ticketNumbered, .selects RX5 yX5_ticketNumbered yX5_ticketNumbered, .initialized RX5, .code yX5_ticketNumbered cX5_ticketNumbered 2 (some (.object "FerryTerminal$Ticket")), .fieldLink RX5 100 "FerryTerminal" "ticketCount" "I", .fieldLink RX5 29 "FerryTerminal" "tickets" "[LFerryTerminal$Ticket;", .methodLink RX5 47 yX5_within, .static yX5_within, .code yX5_within cX5_within 3 (some .boolean), .instanceMethod yX2_isPlannedOrOpen, .initialized RX2, .selects RX2 yX2_isPlannedOrOpen yX2_isPlannedOrOpen, .code yX2_isPlannedOrOpen cX2_isPlannedOrOpen 1 (some .boolean), .fieldLink RX2 9 "FerryTerminal$Sailing" "how" "I"] ++ wsX40 ++ wsX50 ++ wsX20)
def wsX5_hasOpenSailing : List Cond := .code yX5_hasOpenSailing cX5_hasOpenSailing 3 (some .boolean) :: ([.fieldLink RX5 65 "FerryTerminal" "sailingCount" "I", .fieldLink RX5 23 "FerryTerminal" "sailings" "[LFerryTerminal$Sailing;"] ++ wsX50 ++ wsX20)
def wsX5_open : List Cond := .code yX5_open cX5_open 3 (some .boolean) :: ([.methodLink RX5 92 yX5_sailingNumbered, .instanceMethod yX5_sailingNumbered, .selects RX5 yX5_sailingNumbered yX5_sailingNumbered, .initialized RX5, .code yX5_sailingNumbered cX5_sailingNumbered 2 (some (.object "FerryTerminal$Sailing")), .fieldLink RX5 65 "FerryTerminal" "sailingCount" "I", .fieldLink RX5 23 "FerryTerminal" "sailings" "[LFerryTerminal$Sailing;", .methodLink RX5 47 yX5_within, .static yX5_within, .code yX5_within cX5_within 3 (some .boolean), .methodLink RX5 130 yX5_hasOpenSailing, .instanceMethod yX5_hasOpenSailing, .selects RX5 yX5_hasOpenSailing yX5_hasOpenSailing, .code yX5_hasOpenSailing cX5_hasOpenSailing 3 (some .boolean)] ++ wsX20 ++ wsX50)
def wsX5_hasBoardingTurn : List Cond := .code yX5_hasBoardingTurn cX5_hasBoardingTurn 4 (some .boolean) :: ([.fieldLink RX5 100 "FerryTerminal" "ticketCount" "I", .fieldLink RX5 29 "FerryTerminal" "tickets" "[LFerryTerminal$Ticket;"] ++ wsX20 ++ wsX50 ++ wsX40)
def wsX5_firstWithTurn : List Cond := .code yX5_firstWithTurn cX5_firstWithTurn 3 (some (.object "FerryTerminal$Sailing")) :: ([.fieldLink RX5 65 "FerryTerminal" "sailingCount" "I", .fieldLink RX5 23 "FerryTerminal" "sailings" "[LFerryTerminal$Sailing;", .methodLink RX5 151 yX5_hasBoardingTurn, .instanceMethod yX5_hasBoardingTurn, .selects RX5 yX5_hasBoardingTurn yX5_hasBoardingTurn, .initialized RX5, .code yX5_hasBoardingTurn cX5_hasBoardingTurn 4 (some .boolean), .fieldLink RX5 100 "FerryTerminal" "ticketCount" "I", .fieldLink RX5 29 "FerryTerminal" "tickets" "[LFerryTerminal$Ticket;"] ++ wsX50 ++ wsX20 ++ wsX40)
def wsX5_latestAboard : List Cond := .code yX5_latestAboard cX5_latestAboard 5 (some (.object "FerryTerminal$Ticket")) :: ([.fieldLink RX5 100 "FerryTerminal" "ticketCount" "I", .fieldLink RX5 29 "FerryTerminal" "tickets" "[LFerryTerminal$Ticket;"] ++ wsX50 ++ wsX40)
def wsX5_freeCabin : List Cond := .code yX5_freeCabin cX5_freeCabin 2 none :: ([.fieldLink RX5 58 "FerryTerminal" "cabinCount" "I", .fieldLink RX5 17 "FerryTerminal" "cabins" "[LFerryTerminal$Cabin;", .methodLink RX5 47 yX5_within, .static yX5_within, .initialized RX5, .code yX5_within cX5_within 3 (some .boolean)] ++ wsX40 ++ wsX50 ++ wsX10)
def wsX5_bringOff_r1 : List Cond := [Cond.instanceMethod yX3_clearPlace, Cond.initialized RX3, Cond.selects RX3 yX3_clearPlace yX3_clearPlace, Cond.code yX3_clearPlace cX3_clearPlace 2 none, Cond.fieldLink RX3 95 "FerryTerminal$Ship" "standing" "I", Cond.methodLink RX3 87 yX3_nextAhead, Cond.instanceMethod yX3_nextAhead, Cond.selects RX3 yX3_nextAhead yX3_nextAhead, Cond.code yX3_nextAhead cX3_nextAhead 4 (some (.object "FerryTerminal$Ticket")), Cond.methodLink RX3 38 yX3_nearestBow, Cond.instanceMethod yX3_nearestBow, Cond.selects RX3 yX3_nearestBow yX3_nearestBow, Cond.code yX3_nearestBow cX3_nearestBow 3 (some (.object "FerryTerminal$Ticket")), Cond.fieldLink RX3 30 "FerryTerminal$Ship" "firsts" "[LFerryTerminal$Ticket;", Cond.fieldLink RX3 18 "FerryTerminal$Ship" "lanes" "I", Cond.methodLink RX3 34 yX3_hasLane, Cond.instanceMethod yX3_hasLane, Cond.selects RX3 yX3_hasLane yX3_hasLane, Cond.code yX3_hasLane cX3_hasLane 3 (some .boolean), Cond.fieldLink RX3 15 "FerryTerminal$Ship" "decks" "I", Cond.methodLink RX3 91 yX3_chain, Cond.instanceMethod yX3_chain, Cond.selects RX3 yX3_chain yX3_chain, Cond.code yX3_chain cX3_chain 4 none]
def wsX5_bringOff_r2 : List Cond := [Cond.methodLink RX5 222 yX5_freeCabin, Cond.instanceMethod yX5_freeCabin, Cond.selects RX5 yX5_freeCabin yX5_freeCabin, Cond.initialized RX5, Cond.code yX5_freeCabin cX5_freeCabin 2 none, Cond.fieldLink RX5 58 "FerryTerminal" "cabinCount" "I", Cond.fieldLink RX5 17 "FerryTerminal" "cabins" "[LFerryTerminal$Cabin;", Cond.methodLink RX5 47 yX5_within, Cond.static yX5_within, Cond.code yX5_within cX5_within 3 (some .boolean)]
def wsX5_bringOff : List Cond := .code yX5_bringOff cX5_bringOff 2 none :: ((wsX5_bringOff_r1 ++ wsX5_bringOff_r2) ++ wsX40 ++ wsX20 ++ wsX30 ++ wsX50 ++ wsX10)
def wsX5_writeLog : List Cond := .code yX5_writeLog cX5_writeLog 4 none :: ([.fieldLink RX5 159 "FerryTerminal" "turnsEver" "I", .fieldLink RX5 33 "FerryTerminal" "logKinds" "[I", .fieldLink RX5 37 "FerryTerminal" "logTickets" "[I", .fieldLink RX5 40 "FerryTerminal" "logSailings" "[I"] ++ wsX50 ++ wsX40 ++ wsX20)
def wsX5_firstToMoveOn : List Cond := .code yX5_firstToMoveOn cX5_firstToMoveOn 4 (some (.object "FerryTerminal$Ticket")) :: ([.fieldLink RX5 100 "FerryTerminal" "ticketCount" "I", .fieldLink RX5 29 "FerryTerminal" "tickets" "[LFerryTerminal$Ticket;"] ++ wsX50 ++ wsX40)
def wsX5_nextOfLine : List Cond := .code yX5_nextOfLine cX5_nextOfLine 6 (some (.object "FerryTerminal$Sailing")) :: ([.fieldLink RX5 65 "FerryTerminal" "sailingCount" "I", .fieldLink RX5 23 "FerryTerminal" "sailings" "[LFerryTerminal$Sailing;", .instanceMethod yX2_takesTickets, .initialized RX2, .selects RX2 yX2_takesTickets yX2_takesTickets, .code yX2_takesTickets cX2_takesTickets 1 (some .boolean), .fieldLink RX2 15 "FerryTerminal$Sailing" "recallIn" "I", .methodLink RX2 31 yX2_isPlannedOrOpen, .instanceMethod yX2_isPlannedOrOpen, .selects RX2 yX2_isPlannedOrOpen yX2_isPlannedOrOpen, .code yX2_isPlannedOrOpen cX2_isPlannedOrOpen 1 (some .boolean), .fieldLink RX2 9 "FerryTerminal$Sailing" "how" "I"] ++ wsX50 ++ wsX20 ++ wsX30)
def wsX5_doRecallTurn_r1 : List Cond := [Cond.methodLink RX5 225 yX5_latestAboard, Cond.instanceMethod yX5_latestAboard, Cond.selects RX5 yX5_latestAboard yX5_latestAboard, Cond.initialized RX5, Cond.code yX5_latestAboard cX5_latestAboard 5 (some (.object "FerryTerminal$Ticket")), Cond.fieldLink RX5 100 "FerryTerminal" "ticketCount" "I", Cond.fieldLink RX5 29 "FerryTerminal" "tickets" "[LFerryTerminal$Ticket;", Cond.methodLink RX5 231 yX5_bringOff, Cond.instanceMethod yX5_bringOff, Cond.selects RX5 yX5_bringOff yX5_bringOff, Cond.code yX5_bringOff cX5_bringOff 2 none, Cond.instanceMethod yX3_clearPlace, Cond.initialized RX3, Cond.selects RX3 yX3_clearPlace yX3_clearPlace, Cond.code yX3_clearPlace cX3_clearPlace 2 none, Cond.fieldLink RX3 95 "FerryTerminal$Ship" "standing" "I", Cond.methodLink RX3 87 yX3_nextAhead, Cond.instanceMethod yX3_nextAhead, Cond.selects RX3 yX3_nextAhead yX3_nextAhead, Cond.code yX3_nextAhead cX3_nextAhead 4 (some (.object "FerryTerminal$Ticket")), Cond.methodLink RX3 38 yX3_nearestBow, Cond.instanceMethod yX3_nearestBow, Cond.selects RX3 yX3_nearestBow yX3_nearestBow, Cond.code yX3_nearestBow cX3_nearestBow 3 (some (.object "FerryTerminal$Ticket"))]
def wsX5_doRecallTurn_r2 : List Cond := [Cond.fieldLink RX3 30 "FerryTerminal$Ship" "firsts" "[LFerryTerminal$Ticket;", Cond.fieldLink RX3 18 "FerryTerminal$Ship" "lanes" "I", Cond.methodLink RX3 34 yX3_hasLane, Cond.instanceMethod yX3_hasLane, Cond.selects RX3 yX3_hasLane yX3_hasLane, Cond.code yX3_hasLane cX3_hasLane 3 (some .boolean), Cond.fieldLink RX3 15 "FerryTerminal$Ship" "decks" "I", Cond.methodLink RX3 91 yX3_chain, Cond.instanceMethod yX3_chain, Cond.selects RX3 yX3_chain yX3_chain, Cond.code yX3_chain cX3_chain 4 none, Cond.methodLink RX5 222 yX5_freeCabin, Cond.instanceMethod yX5_freeCabin, Cond.selects RX5 yX5_freeCabin yX5_freeCabin, Cond.code yX5_freeCabin cX5_freeCabin 2 none, Cond.fieldLink RX5 58 "FerryTerminal" "cabinCount" "I", Cond.fieldLink RX5 17 "FerryTerminal" "cabins" "[LFerryTerminal$Cabin;", Cond.methodLink RX5 47 yX5_within, Cond.static yX5_within, Cond.code yX5_within cX5_within 3 (some .boolean), Cond.methodLink RX5 173 yX5_writeLog, Cond.instanceMethod yX5_writeLog, Cond.selects RX5 yX5_writeLog yX5_writeLog, Cond.code yX5_writeLog cX5_writeLog 4 none]
def wsX5_doRecallTurn_r3 : List Cond := [Cond.fieldLink RX5 159 "FerryTerminal" "turnsEver" "I", Cond.fieldLink RX5 33 "FerryTerminal" "logKinds" "[I", Cond.fieldLink RX5 37 "FerryTerminal" "logTickets" "[I", Cond.fieldLink RX5 40 "FerryTerminal" "logSailings" "[I", Cond.methodLink RX5 228 yX5_firstToMoveOn, Cond.instanceMethod yX5_firstToMoveOn, Cond.selects RX5 yX5_firstToMoveOn yX5_firstToMoveOn, Cond.code yX5_firstToMoveOn cX5_firstToMoveOn 4 (some (.object "FerryTerminal$Ticket")), Cond.methodLink RX5 235 yX5_nextOfLine, Cond.instanceMethod yX5_nextOfLine, Cond.selects RX5 yX5_nextOfLine yX5_nextOfLine, Cond.code yX5_nextOfLine cX5_nextOfLine 6 (some (.object "FerryTerminal$Sailing")), Cond.fieldLink RX5 65 "FerryTerminal" "sailingCount" "I", Cond.fieldLink RX5 23 "FerryTerminal" "sailings" "[LFerryTerminal$Sailing;", Cond.instanceMethod yX2_takesTickets, Cond.initialized RX2, Cond.selects RX2 yX2_takesTickets yX2_takesTickets, Cond.code yX2_takesTickets cX2_takesTickets 1 (some .boolean), Cond.fieldLink RX2 15 "FerryTerminal$Sailing" "recallIn" "I", Cond.methodLink RX2 31 yX2_isPlannedOrOpen, Cond.instanceMethod yX2_isPlannedOrOpen, Cond.selects RX2 yX2_isPlannedOrOpen yX2_isPlannedOrOpen, Cond.code yX2_isPlannedOrOpen cX2_isPlannedOrOpen 1 (some .boolean), Cond.fieldLink RX2 9 "FerryTerminal$Sailing" "how" "I"]
def wsX5_doRecallTurn : List Cond := .code yX5_doRecallTurn cX5_doRecallTurn 5 none :: ((wsX5_doRecallTurn_r1 ++ (wsX5_doRecallTurn_r2 ++ wsX5_doRecallTurn_r3)) ++ wsX40 ++ wsX50 ++ wsX20 ++ wsX30 ++ wsX10)
def wsX5_firstHere : List Cond := .code yX5_firstHere cX5_firstHere 5 (some (.object "FerryTerminal$Ticket")) :: ([.fieldLink RX5 100 "FerryTerminal" "ticketCount" "I", .fieldLink RX5 29 "FerryTerminal" "tickets" "[LFerryTerminal$Ticket;"] ++ wsX50 ++ wsX40)
def wsX5_takeFreeCabin : List Cond := .code yX5_takeFreeCabin cX5_takeFreeCabin 5 (some .int) :: ([.fieldLink RX5 58 "FerryTerminal" "cabinCount" "I", .fieldLink RX5 17 "FerryTerminal" "cabins" "[LFerryTerminal$Cabin;"] ++ wsX50 ++ wsX10)
def wsX5_goOnAfterRamp : List Cond := .code yX5_goOnAfterRamp cX5_goOnAfterRamp 3 none :: ([.methodLink RX5 204 yX5_takeFreeCabin, .instanceMethod yX5_takeFreeCabin, .selects RX5 yX5_takeFreeCabin yX5_takeFreeCabin, .initialized RX5, .code yX5_takeFreeCabin cX5_takeFreeCabin 5 (some .int), .fieldLink RX5 58 "FerryTerminal" "cabinCount" "I", .fieldLink RX5 17 "FerryTerminal" "cabins" "[LFerryTerminal$Cabin;", .methodLink RX5 173 yX5_writeLog, .instanceMethod yX5_writeLog, .selects RX5 yX5_writeLog yX5_writeLog, .code yX5_writeLog cX5_writeLog 4 none, .fieldLink RX5 159 "FerryTerminal" "turnsEver" "I", .fieldLink RX5 33 "FerryTerminal" "logKinds" "[I", .fieldLink RX5 37 "FerryTerminal" "logTickets" "[I", .fieldLink RX5 40 "FerryTerminal" "logSailings" "[I"] ++ wsX20 ++ wsX40 ++ wsX50 ++ wsX10)
def wsX5_firstOfBoardingList : List Cond := .code yX5_firstOfBoardingList cX5_firstOfBoardingList 5 (some (.object "FerryTerminal$Ticket")) :: ([.fieldLink RX5 100 "FerryTerminal" "ticketCount" "I", .fieldLink RX5 29 "FerryTerminal" "tickets" "[LFerryTerminal$Ticket;", .instanceMethod yX4_boardsAheadOf, .initialized RX4, .selects RX4 yX4_boardsAheadOf yX4_boardsAheadOf, .code yX4_boardsAheadOf cX4_boardsAheadOf 2 (some .boolean), .fieldLink RX4 40 "FerryTerminal$Ticket" "height" "I", .fieldLink RX4 30 "FerryTerminal$Ticket" "number" "I", .methodLink RX4 52 yX4_isLate, .instanceMethod yX4_isLate, .selects RX4 yX4_isLate yX4_isLate, .code yX4_isLate cX4_isLate 1 (some .boolean), .fieldLink RX4 15 "FerryTerminal$Ticket" "minute" "I", .fieldLink RX4 33 "FerryTerminal$Ticket" "trip" "LFerryTerminal$Sailing;"] ++ wsX50 ++ wsX40 ++ wsX20)
def wsX5_doRampTurn_r1 : List Cond := [Cond.fieldLink RX5 159 "FerryTerminal" "turnsEver" "I", Cond.instanceMethod yX3_placeByDeckRule, Cond.initialized RX3, Cond.selects RX3 yX3_placeByDeckRule yX3_placeByDeckRule, Cond.code yX3_placeByDeckRule cX3_placeByDeckRule 8 (some .boolean), Cond.fieldLink RX3 15 "FerryTerminal$Ship" "decks" "I", Cond.fieldLink RX3 18 "FerryTerminal$Ship" "lanes" "I", Cond.methodLink RX3 66 yX3_freePlaces, Cond.instanceMethod yX3_freePlaces, Cond.selects RX3 yX3_freePlaces yX3_freePlaces, Cond.code yX3_freePlaces cX3_freePlaces 5 (some .int), Cond.fieldLink RX3 21 "FerryTerminal$Ship" "length" "I", Cond.methodLink RX3 38 yX3_nearestBow, Cond.instanceMethod yX3_nearestBow, Cond.selects RX3 yX3_nearestBow yX3_nearestBow, Cond.code yX3_nearestBow cX3_nearestBow 3 (some (.object "FerryTerminal$Ticket")), Cond.fieldLink RX3 30 "FerryTerminal$Ship" "firsts" "[LFerryTerminal$Ticket;", Cond.methodLink RX3 34 yX3_hasLane, Cond.instanceMethod yX3_hasLane, Cond.selects RX3 yX3_hasLane yX3_hasLane, Cond.code yX3_hasLane cX3_hasLane 3 (some .boolean), Cond.methodLink RX3 69 yX3_mayStand, Cond.instanceMethod yX3_mayStand, Cond.selects RX3 yX3_mayStand yX3_mayStand]
def wsX5_doRampTurn_r2 : List Cond := [Cond.code yX3_mayStand cX3_mayStand 5 (some .boolean), Cond.fieldLink RX3 24 "FerryTerminal$Ship" "half" "Z", Cond.methodLink RX3 56 yX3_tallStandsUnder, Cond.instanceMethod yX3_tallStandsUnder, Cond.selects RX3 yX3_tallStandsUnder yX3_tallStandsUnder, Cond.code yX3_tallStandsUnder cX3_tallStandsUnder 3 (some .boolean), Cond.methodLink RX3 60 yX3_somethingOnDeckOne, Cond.instanceMethod yX3_somethingOnDeckOne, Cond.selects RX3 yX3_somethingOnDeckOne yX3_somethingOnDeckOne, Cond.code yX3_somethingOnDeckOne cX3_somethingOnDeckOne 2 (some .boolean), Cond.methodLink RX3 73 yX3_firstGap, Cond.instanceMethod yX3_firstGap, Cond.selects RX3 yX3_firstGap yX3_firstGap, Cond.code yX3_firstGap cX3_firstGap 6 (some .int), Cond.methodLink RX3 77 yX3_putInPlace, Cond.instanceMethod yX3_putInPlace, Cond.selects RX3 yX3_putInPlace yX3_putInPlace, Cond.code yX3_putInPlace cX3_putInPlace 6 none, Cond.fieldLink RX3 95 "FerryTerminal$Ship" "standing" "I", Cond.methodLink RX3 87 yX3_nextAhead, Cond.instanceMethod yX3_nextAhead, Cond.selects RX3 yX3_nextAhead yX3_nextAhead, Cond.code yX3_nextAhead cX3_nextAhead 4 (some (.object "FerryTerminal$Ticket")), Cond.methodLink RX3 91 yX3_chain]
def wsX5_doRampTurn_r3 : List Cond := [Cond.instanceMethod yX3_chain, Cond.selects RX3 yX3_chain yX3_chain, Cond.code yX3_chain cX3_chain 4 none, Cond.methodLink RX5 173 yX5_writeLog, Cond.instanceMethod yX5_writeLog, Cond.selects RX5 yX5_writeLog yX5_writeLog, Cond.initialized RX5, Cond.code yX5_writeLog cX5_writeLog 4 none, Cond.fieldLink RX5 33 "FerryTerminal" "logKinds" "[I", Cond.fieldLink RX5 37 "FerryTerminal" "logTickets" "[I", Cond.fieldLink RX5 40 "FerryTerminal" "logSailings" "[I"]
def wsX5_doRampTurn : List Cond := .code yX5_doRampTurn cX5_doRampTurn 3 none :: ((wsX5_doRampTurn_r1 ++ (wsX5_doRampTurn_r2 ++ wsX5_doRampTurn_r3)) ++ wsX20 ++ wsX40 ++ wsX50 ++ wsX30)
def wsX5_doBoardingTurn_r1 : List Cond := [Cond.methodLink RX5 169 yX5_firstHere, Cond.instanceMethod yX5_firstHere, Cond.selects RX5 yX5_firstHere yX5_firstHere, Cond.initialized RX5, Cond.code yX5_firstHere cX5_firstHere 5 (some (.object "FerryTerminal$Ticket")), Cond.fieldLink RX5 100 "FerryTerminal" "ticketCount" "I", Cond.fieldLink RX5 29 "FerryTerminal" "tickets" "[LFerryTerminal$Ticket;", Cond.methodLink RX5 173 yX5_writeLog, Cond.instanceMethod yX5_writeLog, Cond.selects RX5 yX5_writeLog yX5_writeLog, Cond.code yX5_writeLog cX5_writeLog 4 none, Cond.fieldLink RX5 159 "FerryTerminal" "turnsEver" "I", Cond.fieldLink RX5 33 "FerryTerminal" "logKinds" "[I", Cond.fieldLink RX5 37 "FerryTerminal" "logTickets" "[I", Cond.fieldLink RX5 40 "FerryTerminal" "logSailings" "[I", Cond.methodLink RX5 177 yX5_goOnAfterRamp, Cond.instanceMethod yX5_goOnAfterRamp, Cond.selects RX5 yX5_goOnAfterRamp yX5_goOnAfterRamp, Cond.code yX5_goOnAfterRamp cX5_goOnAfterRamp 3 none, Cond.methodLink RX5 204 yX5_takeFreeCabin, Cond.instanceMethod yX5_takeFreeCabin, Cond.selects RX5 yX5_takeFreeCabin yX5_takeFreeCabin, Cond.code yX5_takeFreeCabin cX5_takeFreeCabin 5 (some .int), Cond.fieldLink RX5 58 "FerryTerminal" "cabinCount" "I"]
def wsX5_doBoardingTurn_r2 : List Cond := [Cond.fieldLink RX5 17 "FerryTerminal" "cabins" "[LFerryTerminal$Cabin;", Cond.methodLink RX5 181 yX5_firstOfBoardingList, Cond.instanceMethod yX5_firstOfBoardingList, Cond.selects RX5 yX5_firstOfBoardingList yX5_firstOfBoardingList, Cond.code yX5_firstOfBoardingList cX5_firstOfBoardingList 5 (some (.object "FerryTerminal$Ticket")), Cond.instanceMethod yX4_boardsAheadOf, Cond.initialized RX4, Cond.selects RX4 yX4_boardsAheadOf yX4_boardsAheadOf, Cond.code yX4_boardsAheadOf cX4_boardsAheadOf 2 (some .boolean), Cond.fieldLink RX4 40 "FerryTerminal$Ticket" "height" "I", Cond.fieldLink RX4 30 "FerryTerminal$Ticket" "number" "I", Cond.methodLink RX4 52 yX4_isLate, Cond.instanceMethod yX4_isLate, Cond.selects RX4 yX4_isLate yX4_isLate, Cond.code yX4_isLate cX4_isLate 1 (some .boolean), Cond.fieldLink RX4 15 "FerryTerminal$Ticket" "minute" "I", Cond.fieldLink RX4 33 "FerryTerminal$Ticket" "trip" "LFerryTerminal$Sailing;", Cond.methodLink RX5 184 yX5_doRampTurn, Cond.instanceMethod yX5_doRampTurn, Cond.selects RX5 yX5_doRampTurn yX5_doRampTurn, Cond.code yX5_doRampTurn cX5_doRampTurn 3 none, Cond.instanceMethod yX3_placeByDeckRule, Cond.initialized RX3, Cond.selects RX3 yX3_placeByDeckRule yX3_placeByDeckRule]
def wsX5_doBoardingTurn_r3 : List Cond := [Cond.code yX3_placeByDeckRule cX3_placeByDeckRule 8 (some .boolean), Cond.fieldLink RX3 15 "FerryTerminal$Ship" "decks" "I", Cond.fieldLink RX3 18 "FerryTerminal$Ship" "lanes" "I", Cond.methodLink RX3 66 yX3_freePlaces, Cond.instanceMethod yX3_freePlaces, Cond.selects RX3 yX3_freePlaces yX3_freePlaces, Cond.code yX3_freePlaces cX3_freePlaces 5 (some .int), Cond.fieldLink RX3 21 "FerryTerminal$Ship" "length" "I", Cond.methodLink RX3 38 yX3_nearestBow, Cond.instanceMethod yX3_nearestBow, Cond.selects RX3 yX3_nearestBow yX3_nearestBow, Cond.code yX3_nearestBow cX3_nearestBow 3 (some (.object "FerryTerminal$Ticket")), Cond.fieldLink RX3 30 "FerryTerminal$Ship" "firsts" "[LFerryTerminal$Ticket;", Cond.methodLink RX3 34 yX3_hasLane, Cond.instanceMethod yX3_hasLane, Cond.selects RX3 yX3_hasLane yX3_hasLane, Cond.code yX3_hasLane cX3_hasLane 3 (some .boolean), Cond.methodLink RX3 69 yX3_mayStand, Cond.instanceMethod yX3_mayStand, Cond.selects RX3 yX3_mayStand yX3_mayStand, Cond.code yX3_mayStand cX3_mayStand 5 (some .boolean), Cond.fieldLink RX3 24 "FerryTerminal$Ship" "half" "Z", Cond.methodLink RX3 56 yX3_tallStandsUnder, Cond.instanceMethod yX3_tallStandsUnder]
def wsX5_doBoardingTurn_r4 : List Cond := [Cond.selects RX3 yX3_tallStandsUnder yX3_tallStandsUnder, Cond.code yX3_tallStandsUnder cX3_tallStandsUnder 3 (some .boolean), Cond.methodLink RX3 60 yX3_somethingOnDeckOne, Cond.instanceMethod yX3_somethingOnDeckOne, Cond.selects RX3 yX3_somethingOnDeckOne yX3_somethingOnDeckOne, Cond.code yX3_somethingOnDeckOne cX3_somethingOnDeckOne 2 (some .boolean), Cond.methodLink RX3 73 yX3_firstGap, Cond.instanceMethod yX3_firstGap, Cond.selects RX3 yX3_firstGap yX3_firstGap, Cond.code yX3_firstGap cX3_firstGap 6 (some .int), Cond.methodLink RX3 77 yX3_putInPlace, Cond.instanceMethod yX3_putInPlace, Cond.selects RX3 yX3_putInPlace yX3_putInPlace, Cond.code yX3_putInPlace cX3_putInPlace 6 none, Cond.fieldLink RX3 95 "FerryTerminal$Ship" "standing" "I", Cond.methodLink RX3 87 yX3_nextAhead, Cond.instanceMethod yX3_nextAhead, Cond.selects RX3 yX3_nextAhead yX3_nextAhead, Cond.code yX3_nextAhead cX3_nextAhead 4 (some (.object "FerryTerminal$Ticket")), Cond.methodLink RX3 91 yX3_chain, Cond.instanceMethod yX3_chain, Cond.selects RX3 yX3_chain yX3_chain, Cond.code yX3_chain cX3_chain 4 none]
def wsX5_doBoardingTurn : List Cond := .code yX5_doBoardingTurn cX5_doBoardingTurn 4 none :: ((wsX5_doBoardingTurn_r1 ++ (wsX5_doBoardingTurn_r2 ++ (wsX5_doBoardingTurn_r3 ++ wsX5_doBoardingTurn_r4))) ++ wsX40 ++ wsX20 ++ wsX50 ++ wsX10 ++ wsX30)
def wsX5_bringRecallOn : List Cond := .code yX5_bringRecallOn cX5_bringRecallOn 2 none :: ([.methodLink RX5 151 yX5_hasBoardingTurn, .instanceMethod yX5_hasBoardingTurn, .selects RX5 yX5_hasBoardingTurn yX5_hasBoardingTurn, .initialized RX5, .code yX5_hasBoardingTurn cX5_hasBoardingTurn 4 (some .boolean), .fieldLink RX5 100 "FerryTerminal" "ticketCount" "I", .fieldLink RX5 29 "FerryTerminal" "tickets" "[LFerryTerminal$Ticket;", .methodLink RX5 225 yX5_latestAboard, .instanceMethod yX5_latestAboard, .selects RX5 yX5_latestAboard yX5_latestAboard, .code yX5_latestAboard cX5_latestAboard 5 (some (.object "FerryTerminal$Ticket")), .methodLink RX5 228 yX5_firstToMoveOn, .instanceMethod yX5_firstToMoveOn, .selects RX5 yX5_firstToMoveOn yX5_firstToMoveOn, .code yX5_firstToMoveOn cX5_firstToMoveOn 4 (some (.object "FerryTerminal$Ticket"))] ++ wsX20 ++ wsX50 ++ wsX40)
def wsX5_settle_r1 : List Cond := [Cond.methodLink RX5 47 yX5_within, Cond.static yX5_within, Cond.initialized RX5, Cond.code yX5_within cX5_within 3 (some .boolean), Cond.methodLink RX5 134 yX5_firstWithTurn, Cond.instanceMethod yX5_firstWithTurn, Cond.selects RX5 yX5_firstWithTurn yX5_firstWithTurn, Cond.code yX5_firstWithTurn cX5_firstWithTurn 3 (some (.object "FerryTerminal$Sailing")), Cond.fieldLink RX5 65 "FerryTerminal" "sailingCount" "I", Cond.fieldLink RX5 23 "FerryTerminal" "sailings" "[LFerryTerminal$Sailing;", Cond.methodLink RX5 151 yX5_hasBoardingTurn, Cond.instanceMethod yX5_hasBoardingTurn, Cond.selects RX5 yX5_hasBoardingTurn yX5_hasBoardingTurn, Cond.code yX5_hasBoardingTurn cX5_hasBoardingTurn 4 (some .boolean), Cond.fieldLink RX5 100 "FerryTerminal" "ticketCount" "I", Cond.fieldLink RX5 29 "FerryTerminal" "tickets" "[LFerryTerminal$Ticket;", Cond.methodLink RX5 141 yX5_doRecallTurn, Cond.instanceMethod yX5_doRecallTurn, Cond.selects RX5 yX5_doRecallTurn yX5_doRecallTurn, Cond.code yX5_doRecallTurn cX5_doRecallTurn 5 none, Cond.methodLink RX5 225 yX5_latestAboard, Cond.instanceMethod yX5_latestAboard, Cond.selects RX5 yX5_latestAboard yX5_latestAboard, Cond.code yX5_latestAboard cX5_latestAboard 5 (some (.object "FerryTerminal$Ticket"))]
def wsX5_settle_r2 : List Cond := [Cond.methodLink RX5 231 yX5_bringOff, Cond.instanceMethod yX5_bringOff, Cond.selects RX5 yX5_bringOff yX5_bringOff, Cond.code yX5_bringOff cX5_bringOff 2 none, Cond.instanceMethod yX3_clearPlace, Cond.initialized RX3, Cond.selects RX3 yX3_clearPlace yX3_clearPlace, Cond.code yX3_clearPlace cX3_clearPlace 2 none, Cond.fieldLink RX3 95 "FerryTerminal$Ship" "standing" "I", Cond.methodLink RX3 87 yX3_nextAhead, Cond.instanceMethod yX3_nextAhead, Cond.selects RX3 yX3_nextAhead yX3_nextAhead, Cond.code yX3_nextAhead cX3_nextAhead 4 (some (.object "FerryTerminal$Ticket")), Cond.methodLink RX3 38 yX3_nearestBow, Cond.instanceMethod yX3_nearestBow, Cond.selects RX3 yX3_nearestBow yX3_nearestBow, Cond.code yX3_nearestBow cX3_nearestBow 3 (some (.object "FerryTerminal$Ticket")), Cond.fieldLink RX3 30 "FerryTerminal$Ship" "firsts" "[LFerryTerminal$Ticket;", Cond.fieldLink RX3 18 "FerryTerminal$Ship" "lanes" "I", Cond.methodLink RX3 34 yX3_hasLane, Cond.instanceMethod yX3_hasLane, Cond.selects RX3 yX3_hasLane yX3_hasLane, Cond.code yX3_hasLane cX3_hasLane 3 (some .boolean), Cond.fieldLink RX3 15 "FerryTerminal$Ship" "decks" "I"]
def wsX5_settle_r3 : List Cond := [Cond.methodLink RX3 91 yX3_chain, Cond.instanceMethod yX3_chain, Cond.selects RX3 yX3_chain yX3_chain, Cond.code yX3_chain cX3_chain 4 none, Cond.methodLink RX5 222 yX5_freeCabin, Cond.instanceMethod yX5_freeCabin, Cond.selects RX5 yX5_freeCabin yX5_freeCabin, Cond.code yX5_freeCabin cX5_freeCabin 2 none, Cond.fieldLink RX5 58 "FerryTerminal" "cabinCount" "I", Cond.fieldLink RX5 17 "FerryTerminal" "cabins" "[LFerryTerminal$Cabin;", Cond.methodLink RX5 173 yX5_writeLog, Cond.instanceMethod yX5_writeLog, Cond.selects RX5 yX5_writeLog yX5_writeLog, Cond.code yX5_writeLog cX5_writeLog 4 none, Cond.fieldLink RX5 159 "FerryTerminal" "turnsEver" "I", Cond.fieldLink RX5 33 "FerryTerminal" "logKinds" "[I", Cond.fieldLink RX5 37 "FerryTerminal" "logTickets" "[I", Cond.fieldLink RX5 40 "FerryTerminal" "logSailings" "[I", Cond.methodLink RX5 228 yX5_firstToMoveOn, Cond.instanceMethod yX5_firstToMoveOn, Cond.selects RX5 yX5_firstToMoveOn yX5_firstToMoveOn, Cond.code yX5_firstToMoveOn cX5_firstToMoveOn 4 (some (.object "FerryTerminal$Ticket")), Cond.methodLink RX5 235 yX5_nextOfLine, Cond.instanceMethod yX5_nextOfLine]
def wsX5_settle_r4 : List Cond := [Cond.selects RX5 yX5_nextOfLine yX5_nextOfLine, Cond.code yX5_nextOfLine cX5_nextOfLine 6 (some (.object "FerryTerminal$Sailing")), Cond.instanceMethod yX2_takesTickets, Cond.initialized RX2, Cond.selects RX2 yX2_takesTickets yX2_takesTickets, Cond.code yX2_takesTickets cX2_takesTickets 1 (some .boolean), Cond.fieldLink RX2 15 "FerryTerminal$Sailing" "recallIn" "I", Cond.methodLink RX2 31 yX2_isPlannedOrOpen, Cond.instanceMethod yX2_isPlannedOrOpen, Cond.selects RX2 yX2_isPlannedOrOpen yX2_isPlannedOrOpen, Cond.code yX2_isPlannedOrOpen cX2_isPlannedOrOpen 1 (some .boolean), Cond.fieldLink RX2 9 "FerryTerminal$Sailing" "how" "I", Cond.methodLink RX5 145 yX5_doBoardingTurn, Cond.instanceMethod yX5_doBoardingTurn, Cond.selects RX5 yX5_doBoardingTurn yX5_doBoardingTurn, Cond.code yX5_doBoardingTurn cX5_doBoardingTurn 4 none, Cond.methodLink RX5 169 yX5_firstHere, Cond.instanceMethod yX5_firstHere, Cond.selects RX5 yX5_firstHere yX5_firstHere, Cond.code yX5_firstHere cX5_firstHere 5 (some (.object "FerryTerminal$Ticket")), Cond.methodLink RX5 177 yX5_goOnAfterRamp, Cond.instanceMethod yX5_goOnAfterRamp, Cond.selects RX5 yX5_goOnAfterRamp yX5_goOnAfterRamp, Cond.code yX5_goOnAfterRamp cX5_goOnAfterRamp 3 none]
def wsX5_settle_r5 : List Cond := [Cond.methodLink RX5 204 yX5_takeFreeCabin, Cond.instanceMethod yX5_takeFreeCabin, Cond.selects RX5 yX5_takeFreeCabin yX5_takeFreeCabin, Cond.code yX5_takeFreeCabin cX5_takeFreeCabin 5 (some .int), Cond.methodLink RX5 181 yX5_firstOfBoardingList, Cond.instanceMethod yX5_firstOfBoardingList, Cond.selects RX5 yX5_firstOfBoardingList yX5_firstOfBoardingList, Cond.code yX5_firstOfBoardingList cX5_firstOfBoardingList 5 (some (.object "FerryTerminal$Ticket")), Cond.instanceMethod yX4_boardsAheadOf, Cond.initialized RX4, Cond.selects RX4 yX4_boardsAheadOf yX4_boardsAheadOf, Cond.code yX4_boardsAheadOf cX4_boardsAheadOf 2 (some .boolean), Cond.fieldLink RX4 40 "FerryTerminal$Ticket" "height" "I", Cond.fieldLink RX4 30 "FerryTerminal$Ticket" "number" "I", Cond.methodLink RX4 52 yX4_isLate, Cond.instanceMethod yX4_isLate, Cond.selects RX4 yX4_isLate yX4_isLate, Cond.code yX4_isLate cX4_isLate 1 (some .boolean), Cond.fieldLink RX4 15 "FerryTerminal$Ticket" "minute" "I", Cond.fieldLink RX4 33 "FerryTerminal$Ticket" "trip" "LFerryTerminal$Sailing;", Cond.methodLink RX5 184 yX5_doRampTurn, Cond.instanceMethod yX5_doRampTurn, Cond.selects RX5 yX5_doRampTurn yX5_doRampTurn, Cond.code yX5_doRampTurn cX5_doRampTurn 3 none]
def wsX5_settle_r6 : List Cond := [Cond.instanceMethod yX3_placeByDeckRule, Cond.selects RX3 yX3_placeByDeckRule yX3_placeByDeckRule, Cond.code yX3_placeByDeckRule cX3_placeByDeckRule 8 (some .boolean), Cond.methodLink RX3 66 yX3_freePlaces, Cond.instanceMethod yX3_freePlaces, Cond.selects RX3 yX3_freePlaces yX3_freePlaces, Cond.code yX3_freePlaces cX3_freePlaces 5 (some .int), Cond.fieldLink RX3 21 "FerryTerminal$Ship" "length" "I", Cond.methodLink RX3 69 yX3_mayStand, Cond.instanceMethod yX3_mayStand, Cond.selects RX3 yX3_mayStand yX3_mayStand, Cond.code yX3_mayStand cX3_mayStand 5 (some .boolean), Cond.fieldLink RX3 24 "FerryTerminal$Ship" "half" "Z", Cond.methodLink RX3 56 yX3_tallStandsUnder, Cond.instanceMethod yX3_tallStandsUnder, Cond.selects RX3 yX3_tallStandsUnder yX3_tallStandsUnder, Cond.code yX3_tallStandsUnder cX3_tallStandsUnder 3 (some .boolean), Cond.methodLink RX3 60 yX3_somethingOnDeckOne, Cond.instanceMethod yX3_somethingOnDeckOne, Cond.selects RX3 yX3_somethingOnDeckOne yX3_somethingOnDeckOne, Cond.code yX3_somethingOnDeckOne cX3_somethingOnDeckOne 2 (some .boolean), Cond.methodLink RX3 73 yX3_firstGap, Cond.instanceMethod yX3_firstGap, Cond.selects RX3 yX3_firstGap yX3_firstGap]
def wsX5_settle_r7 : List Cond := [Cond.code yX3_firstGap cX3_firstGap 6 (some .int), Cond.methodLink RX3 77 yX3_putInPlace, Cond.instanceMethod yX3_putInPlace, Cond.selects RX3 yX3_putInPlace yX3_putInPlace, Cond.code yX3_putInPlace cX3_putInPlace 6 none, Cond.methodLink RX5 148 yX5_bringRecallOn, Cond.instanceMethod yX5_bringRecallOn, Cond.selects RX5 yX5_bringRecallOn yX5_bringRecallOn, Cond.code yX5_bringRecallOn cX5_bringRecallOn 2 none]
def wsX5_settle : List Cond := .code yX5_settle cX5_settle 4 (some .int) :: ((wsX5_settle_r1 ++ (wsX5_settle_r2 ++ (wsX5_settle_r3 ++ (wsX5_settle_r4 ++ (wsX5_settle_r5 ++ (wsX5_settle_r6 ++ wsX5_settle_r7)))))) ++ wsX20 ++ wsX50 ++ wsX40 ++ wsX30 ++ wsX10)
def wsX5_recall_r1 : List Cond := [Cond.methodLink RX5 92 yX5_sailingNumbered, Cond.instanceMethod yX5_sailingNumbered, Cond.selects RX5 yX5_sailingNumbered yX5_sailingNumbered, Cond.initialized RX5, Cond.code yX5_sailingNumbered cX5_sailingNumbered 2 (some (.object "FerryTerminal$Sailing")), Cond.fieldLink RX5 65 "FerryTerminal" "sailingCount" "I", Cond.fieldLink RX5 23 "FerryTerminal" "sailings" "[LFerryTerminal$Sailing;", Cond.methodLink RX5 47 yX5_within, Cond.static yX5_within, Cond.code yX5_within cX5_within 3 (some .boolean), Cond.methodLink RX5 148 yX5_bringRecallOn, Cond.instanceMethod yX5_bringRecallOn, Cond.selects RX5 yX5_bringRecallOn yX5_bringRecallOn, Cond.code yX5_bringRecallOn cX5_bringRecallOn 2 none, Cond.methodLink RX5 151 yX5_hasBoardingTurn, Cond.instanceMethod yX5_hasBoardingTurn, Cond.selects RX5 yX5_hasBoardingTurn yX5_hasBoardingTurn, Cond.code yX5_hasBoardingTurn cX5_hasBoardingTurn 4 (some .boolean), Cond.fieldLink RX5 100 "FerryTerminal" "ticketCount" "I", Cond.fieldLink RX5 29 "FerryTerminal" "tickets" "[LFerryTerminal$Ticket;", Cond.methodLink RX5 225 yX5_latestAboard, Cond.instanceMethod yX5_latestAboard, Cond.selects RX5 yX5_latestAboard yX5_latestAboard, Cond.code yX5_latestAboard cX5_latestAboard 5 (some (.object "FerryTerminal$Ticket"))]
def wsX5_recall_r2 : List Cond := [Cond.methodLink RX5 228 yX5_firstToMoveOn, Cond.instanceMethod yX5_firstToMoveOn, Cond.selects RX5 yX5_firstToMoveOn yX5_firstToMoveOn, Cond.code yX5_firstToMoveOn cX5_firstToMoveOn 4 (some (.object "FerryTerminal$Ticket"))]
def wsX5_recall : List Cond := .code yX5_recall cX5_recall 4 (some .boolean) :: ((wsX5_recall_r1 ++ wsX5_recall_r2) ++ wsX20 ++ wsX50 ++ wsX40)
def wsX5_endTicket_r1 : List Cond := [Cond.instanceMethod yX3_clearPlace, Cond.initialized RX3, Cond.selects RX3 yX3_clearPlace yX3_clearPlace, Cond.code yX3_clearPlace cX3_clearPlace 2 none, Cond.fieldLink RX3 95 "FerryTerminal$Ship" "standing" "I", Cond.methodLink RX3 87 yX3_nextAhead, Cond.instanceMethod yX3_nextAhead, Cond.selects RX3 yX3_nextAhead yX3_nextAhead, Cond.code yX3_nextAhead cX3_nextAhead 4 (some (.object "FerryTerminal$Ticket")), Cond.methodLink RX3 38 yX3_nearestBow, Cond.instanceMethod yX3_nearestBow, Cond.selects RX3 yX3_nearestBow yX3_nearestBow, Cond.code yX3_nearestBow cX3_nearestBow 3 (some (.object "FerryTerminal$Ticket")), Cond.fieldLink RX3 30 "FerryTerminal$Ship" "firsts" "[LFerryTerminal$Ticket;", Cond.fieldLink RX3 18 "FerryTerminal$Ship" "lanes" "I", Cond.methodLink RX3 34 yX3_hasLane, Cond.instanceMethod yX3_hasLane, Cond.selects RX3 yX3_hasLane yX3_hasLane, Cond.code yX3_hasLane cX3_hasLane 3 (some .boolean), Cond.fieldLink RX3 15 "FerryTerminal$Ship" "decks" "I", Cond.methodLink RX3 91 yX3_chain, Cond.instanceMethod yX3_chain, Cond.selects RX3 yX3_chain yX3_chain, Cond.code yX3_chain cX3_chain 4 none]
def wsX5_endTicket_r2 : List Cond := [Cond.methodLink RX5 222 yX5_freeCabin, Cond.instanceMethod yX5_freeCabin, Cond.selects RX5 yX5_freeCabin yX5_freeCabin, Cond.initialized RX5, Cond.code yX5_freeCabin cX5_freeCabin 2 none, Cond.fieldLink RX5 58 "FerryTerminal" "cabinCount" "I", Cond.fieldLink RX5 17 "FerryTerminal" "cabins" "[LFerryTerminal$Cabin;", Cond.methodLink RX5 47 yX5_within, Cond.static yX5_within, Cond.code yX5_within cX5_within 3 (some .boolean)]
def wsX5_endTicket : List Cond := .code yX5_endTicket cX5_endTicket 2 none :: ((wsX5_endTicket_r1 ++ wsX5_endTicket_r2) ++ wsX40 ++ wsX20 ++ wsX30 ++ wsX50 ++ wsX10)
def wsX5_depart_r1 : List Cond := [Cond.fieldLink RX5 100 "FerryTerminal" "ticketCount" "I", Cond.fieldLink RX5 29 "FerryTerminal" "tickets" "[LFerryTerminal$Ticket;", Cond.methodLink RX5 92 yX5_sailingNumbered, Cond.instanceMethod yX5_sailingNumbered, Cond.selects RX5 yX5_sailingNumbered yX5_sailingNumbered, Cond.initialized RX5, Cond.code yX5_sailingNumbered cX5_sailingNumbered 2 (some (.object "FerryTerminal$Sailing")), Cond.fieldLink RX5 65 "FerryTerminal" "sailingCount" "I", Cond.fieldLink RX5 23 "FerryTerminal" "sailings" "[LFerryTerminal$Sailing;", Cond.methodLink RX5 47 yX5_within, Cond.static yX5_within, Cond.code yX5_within cX5_within 3 (some .boolean), Cond.methodLink RX5 151 yX5_hasBoardingTurn, Cond.instanceMethod yX5_hasBoardingTurn, Cond.selects RX5 yX5_hasBoardingTurn yX5_hasBoardingTurn, Cond.code yX5_hasBoardingTurn cX5_hasBoardingTurn 4 (some .boolean), Cond.methodLink RX5 248 yX5_endTicket, Cond.instanceMethod yX5_endTicket, Cond.selects RX5 yX5_endTicket yX5_endTicket, Cond.code yX5_endTicket cX5_endTicket 2 none, Cond.instanceMethod yX3_clearPlace, Cond.initialized RX3, Cond.selects RX3 yX3_clearPlace yX3_clearPlace, Cond.code yX3_clearPlace cX3_clearPlace 2 none]
def wsX5_depart_r2 : List Cond := [Cond.fieldLink RX3 95 "FerryTerminal$Ship" "standing" "I", Cond.methodLink RX3 87 yX3_nextAhead, Cond.instanceMethod yX3_nextAhead, Cond.selects RX3 yX3_nextAhead yX3_nextAhead, Cond.code yX3_nextAhead cX3_nextAhead 4 (some (.object "FerryTerminal$Ticket")), Cond.methodLink RX3 38 yX3_nearestBow, Cond.instanceMethod yX3_nearestBow, Cond.selects RX3 yX3_nearestBow yX3_nearestBow, Cond.code yX3_nearestBow cX3_nearestBow 3 (some (.object "FerryTerminal$Ticket")), Cond.fieldLink RX3 30 "FerryTerminal$Ship" "firsts" "[LFerryTerminal$Ticket;", Cond.fieldLink RX3 18 "FerryTerminal$Ship" "lanes" "I", Cond.methodLink RX3 34 yX3_hasLane, Cond.instanceMethod yX3_hasLane, Cond.selects RX3 yX3_hasLane yX3_hasLane, Cond.code yX3_hasLane cX3_hasLane 3 (some .boolean), Cond.fieldLink RX3 15 "FerryTerminal$Ship" "decks" "I", Cond.methodLink RX3 91 yX3_chain, Cond.instanceMethod yX3_chain, Cond.selects RX3 yX3_chain yX3_chain, Cond.code yX3_chain cX3_chain 4 none, Cond.methodLink RX5 222 yX5_freeCabin, Cond.instanceMethod yX5_freeCabin, Cond.selects RX5 yX5_freeCabin yX5_freeCabin, Cond.code yX5_freeCabin cX5_freeCabin 2 none]
def wsX5_depart_r3 : List Cond := [Cond.fieldLink RX5 58 "FerryTerminal" "cabinCount" "I", Cond.fieldLink RX5 17 "FerryTerminal" "cabins" "[LFerryTerminal$Cabin;"]
def wsX5_depart : List Cond := .code yX5_depart cX5_depart 6 (some .int) :: ((wsX5_depart_r1 ++ (wsX5_depart_r2 ++ wsX5_depart_r3)) ++ wsX20 ++ wsX50 ++ wsX40 ++ wsX30 ++ wsX10)
def wsX5_off_r1 : List Cond := [Cond.methodLink RX5 116 yX5_ticketNumbered, Cond.instanceMethod yX5_ticketNumbered, Cond.selects RX5 yX5_ticketNumbered yX5_ticketNumbered, Cond.initialized RX5, Cond.code yX5_ticketNumbered cX5_ticketNumbered 2 (some (.object "FerryTerminal$Ticket")), Cond.fieldLink RX5 100 "FerryTerminal" "ticketCount" "I", Cond.fieldLink RX5 29 "FerryTerminal" "tickets" "[LFerryTerminal$Ticket;", Cond.methodLink RX5 47 yX5_within, Cond.static yX5_within, Cond.code yX5_within cX5_within 3 (some .boolean), Cond.methodLink RX5 231 yX5_bringOff, Cond.instanceMethod yX5_bringOff, Cond.selects RX5 yX5_bringOff yX5_bringOff, Cond.code yX5_bringOff cX5_bringOff 2 none, Cond.instanceMethod yX3_clearPlace, Cond.initialized RX3, Cond.selects RX3 yX3_clearPlace yX3_clearPlace, Cond.code yX3_clearPlace cX3_clearPlace 2 none, Cond.fieldLink RX3 95 "FerryTerminal$Ship" "standing" "I", Cond.methodLink RX3 87 yX3_nextAhead, Cond.instanceMethod yX3_nextAhead, Cond.selects RX3 yX3_nextAhead yX3_nextAhead, Cond.code yX3_nextAhead cX3_nextAhead 4 (some (.object "FerryTerminal$Ticket")), Cond.methodLink RX3 38 yX3_nearestBow]
def wsX5_off_r2 : List Cond := [Cond.instanceMethod yX3_nearestBow, Cond.selects RX3 yX3_nearestBow yX3_nearestBow, Cond.code yX3_nearestBow cX3_nearestBow 3 (some (.object "FerryTerminal$Ticket")), Cond.fieldLink RX3 30 "FerryTerminal$Ship" "firsts" "[LFerryTerminal$Ticket;", Cond.fieldLink RX3 18 "FerryTerminal$Ship" "lanes" "I", Cond.methodLink RX3 34 yX3_hasLane, Cond.instanceMethod yX3_hasLane, Cond.selects RX3 yX3_hasLane yX3_hasLane, Cond.code yX3_hasLane cX3_hasLane 3 (some .boolean), Cond.fieldLink RX3 15 "FerryTerminal$Ship" "decks" "I", Cond.methodLink RX3 91 yX3_chain, Cond.instanceMethod yX3_chain, Cond.selects RX3 yX3_chain yX3_chain, Cond.code yX3_chain cX3_chain 4 none, Cond.methodLink RX5 222 yX5_freeCabin, Cond.instanceMethod yX5_freeCabin, Cond.selects RX5 yX5_freeCabin yX5_freeCabin, Cond.code yX5_freeCabin cX5_freeCabin 2 none, Cond.fieldLink RX5 58 "FerryTerminal" "cabinCount" "I", Cond.fieldLink RX5 17 "FerryTerminal" "cabins" "[LFerryTerminal$Cabin;"]
def wsX5_off : List Cond := .code yX5_off cX5_off 4 (some .boolean) :: ((wsX5_off_r1 ++ wsX5_off_r2) ++ wsX40 ++ wsX20 ++ wsX50 ++ wsX30 ++ wsX10)
def wsX5_shipOf : List Cond := .code yX5_shipOf cX5_shipOf 4 (some .int) :: ([.methodLink RX5 54 yX5_shipNumbered, .instanceMethod yX5_shipNumbered, .selects RX5 yX5_shipNumbered yX5_shipNumbered, .initialized RX5, .code yX5_shipNumbered cX5_shipNumbered 2 (some (.object "FerryTerminal$Ship")), .fieldLink RX5 43 "FerryTerminal" "shipCount" "I", .fieldLink RX5 11 "FerryTerminal" "ships" "[LFerryTerminal$Ship;", .methodLink RX5 47 yX5_within, .static yX5_within, .code yX5_within cX5_within 3 (some .boolean)] ++ wsX30 ++ wsX50)
def wsX5_ticketsOf : List Cond := .code yX5_ticketsOf cX5_ticketsOf 4 (some .int) :: ([.fieldLink RX5 100 "FerryTerminal" "ticketCount" "I", .fieldLink RX5 29 "FerryTerminal" "tickets" "[LFerryTerminal$Ticket;"] ++ wsX50 ++ wsX40)
def wsX5_sailingOf : List Cond := .code yX5_sailingOf cX5_sailingOf 4 (some .int) :: ([.methodLink RX5 92 yX5_sailingNumbered, .instanceMethod yX5_sailingNumbered, .selects RX5 yX5_sailingNumbered yX5_sailingNumbered, .initialized RX5, .code yX5_sailingNumbered cX5_sailingNumbered 2 (some (.object "FerryTerminal$Sailing")), .fieldLink RX5 65 "FerryTerminal" "sailingCount" "I", .fieldLink RX5 23 "FerryTerminal" "sailings" "[LFerryTerminal$Sailing;", .methodLink RX5 47 yX5_within, .static yX5_within, .code yX5_within cX5_within 3 (some .boolean), .methodLink RX5 267 yX5_ticketsOf, .instanceMethod yX5_ticketsOf, .selects RX5 yX5_ticketsOf yX5_ticketsOf, .code yX5_ticketsOf cX5_ticketsOf 4 (some .int), .fieldLink RX5 100 "FerryTerminal" "ticketCount" "I", .fieldLink RX5 29 "FerryTerminal" "tickets" "[LFerryTerminal$Ticket;"] ++ wsX20 ++ wsX30 ++ wsX50 ++ wsX40)
def wsX5_ticketOf_r1 : List Cond := [Cond.methodLink RX5 116 yX5_ticketNumbered, Cond.instanceMethod yX5_ticketNumbered, Cond.selects RX5 yX5_ticketNumbered yX5_ticketNumbered, Cond.initialized RX5, Cond.code yX5_ticketNumbered cX5_ticketNumbered 2 (some (.object "FerryTerminal$Ticket")), Cond.fieldLink RX5 100 "FerryTerminal" "ticketCount" "I", Cond.fieldLink RX5 29 "FerryTerminal" "tickets" "[LFerryTerminal$Ticket;", Cond.methodLink RX5 47 yX5_within, Cond.static yX5_within, Cond.code yX5_within cX5_within 3 (some .boolean), Cond.instanceMethod yX4_tell, Cond.initialized RX4, Cond.selects RX4 yX4_tell yX4_tell, Cond.code yX4_tell cX4_tell 2 (some .int), Cond.fieldLink RX4 33 "FerryTerminal$Ticket" "trip" "LFerryTerminal$Sailing;", Cond.fieldLink RX4 37 "FerryTerminal$Ticket" "length" "I", Cond.fieldLink RX4 40 "FerryTerminal$Ticket" "height" "I", Cond.fieldLink RX4 43 "FerryTerminal$Ticket" "wish" "I", Cond.fieldLink RX4 9 "FerryTerminal$Ticket" "how" "I", Cond.fieldLink RX4 15 "FerryTerminal$Ticket" "minute" "I", Cond.fieldLink RX4 18 "FerryTerminal$Ticket" "deck" "I", Cond.fieldLink RX4 21 "FerryTerminal$Ticket" "lane" "I", Cond.fieldLink RX4 24 "FerryTerminal$Ticket" "place" "I", Cond.fieldLink RX4 27 "FerryTerminal$Ticket" "cabin" "I"]
def wsX5_ticketOf_r2 : List Cond := [Cond.fieldLink RX4 46 "FerryTerminal$Ticket" "paid" "I", Cond.fieldLink RX4 57 "FerryTerminal$Ticket" "back" "I", Cond.fieldLink RX4 60 "FerryTerminal$Ticket" "timesOn" "I"]
def wsX5_ticketOf : List Cond := .code yX5_ticketOf cX5_ticketOf 4 (some .int) :: ((wsX5_ticketOf_r1 ++ wsX5_ticketOf_r2) ++ wsX50 ++ wsX40 ++ wsX20)
def wsX5_at : List Cond := .code yX5_at cX5_at 7 (some .int) :: ([.methodLink RX5 54 yX5_shipNumbered, .instanceMethod yX5_shipNumbered, .selects RX5 yX5_shipNumbered yX5_shipNumbered, .initialized RX5, .code yX5_shipNumbered cX5_shipNumbered 2 (some (.object "FerryTerminal$Ship")), .fieldLink RX5 43 "FerryTerminal" "shipCount" "I", .fieldLink RX5 11 "FerryTerminal" "ships" "[LFerryTerminal$Ship;", .methodLink RX5 47 yX5_within, .static yX5_within, .code yX5_within cX5_within 3 (some .boolean), .instanceMethod yX3_nearestBow, .initialized RX3, .selects RX3 yX3_nearestBow yX3_nearestBow, .code yX3_nearestBow cX3_nearestBow 3 (some (.object "FerryTerminal$Ticket")), .fieldLink RX3 30 "FerryTerminal$Ship" "firsts" "[LFerryTerminal$Ticket;", .fieldLink RX3 18 "FerryTerminal$Ship" "lanes" "I", .methodLink RX3 34 yX3_hasLane, .instanceMethod yX3_hasLane, .selects RX3 yX3_hasLane yX3_hasLane, .code yX3_hasLane cX3_hasLane 3 (some .boolean), .fieldLink RX3 15 "FerryTerminal$Ship" "decks" "I"] ++ wsX40 ++ wsX50 ++ wsX30)
def wsX5_lane_r1 : List Cond := [Cond.methodLink RX5 54 yX5_shipNumbered, Cond.instanceMethod yX5_shipNumbered, Cond.selects RX5 yX5_shipNumbered yX5_shipNumbered, Cond.initialized RX5, Cond.code yX5_shipNumbered cX5_shipNumbered 2 (some (.object "FerryTerminal$Ship")), Cond.fieldLink RX5 43 "FerryTerminal" "shipCount" "I", Cond.fieldLink RX5 11 "FerryTerminal" "ships" "[LFerryTerminal$Ship;", Cond.methodLink RX5 47 yX5_within, Cond.static yX5_within, Cond.code yX5_within cX5_within 3 (some .boolean), Cond.instanceMethod yX3_hasLane, Cond.initialized RX3, Cond.selects RX3 yX3_hasLane yX3_hasLane, Cond.code yX3_hasLane cX3_hasLane 3 (some .boolean), Cond.fieldLink RX3 15 "FerryTerminal$Ship" "decks" "I", Cond.fieldLink RX3 18 "FerryTerminal$Ship" "lanes" "I", Cond.instanceMethod yX3_freePlaces, Cond.selects RX3 yX3_freePlaces yX3_freePlaces, Cond.code yX3_freePlaces cX3_freePlaces 5 (some .int), Cond.fieldLink RX3 21 "FerryTerminal$Ship" "length" "I", Cond.methodLink RX3 38 yX3_nearestBow, Cond.instanceMethod yX3_nearestBow, Cond.selects RX3 yX3_nearestBow yX3_nearestBow, Cond.code yX3_nearestBow cX3_nearestBow 3 (some (.object "FerryTerminal$Ticket"))]
def wsX5_lane_r2 : List Cond := [Cond.fieldLink RX3 30 "FerryTerminal$Ship" "firsts" "[LFerryTerminal$Ticket;", Cond.methodLink RX3 34 yX3_hasLane, Cond.instanceMethod yX3_longestGap, Cond.selects RX3 yX3_longestGap yX3_longestGap, Cond.code yX3_longestGap cX3_longestGap 6 (some .int), Cond.methodLink RX3 50 Lib.Math.max.name, Cond.static Lib.Math.max.name, Cond.initialized "java/lang/Math", Cond.code Lib.Math.max.name Lib.Math.max.code 2 (some .int), Cond.instanceMethod yX3_mayStand, Cond.selects RX3 yX3_mayStand yX3_mayStand, Cond.code yX3_mayStand cX3_mayStand 5 (some .boolean), Cond.fieldLink RX3 24 "FerryTerminal$Ship" "half" "Z", Cond.methodLink RX3 56 yX3_tallStandsUnder, Cond.instanceMethod yX3_tallStandsUnder, Cond.selects RX3 yX3_tallStandsUnder yX3_tallStandsUnder, Cond.code yX3_tallStandsUnder cX3_tallStandsUnder 3 (some .boolean), Cond.methodLink RX3 60 yX3_somethingOnDeckOne, Cond.instanceMethod yX3_somethingOnDeckOne, Cond.selects RX3 yX3_somethingOnDeckOne yX3_somethingOnDeckOne, Cond.code yX3_somethingOnDeckOne cX3_somethingOnDeckOne 2 (some .boolean)]
def wsX5_lane : List Cond := .code yX5_lane cX5_lane 6 (some .int) :: ((wsX5_lane_r1 ++ wsX5_lane_r2) ++ wsX50 ++ wsX30 ++ wsX40)
def wsX5_log : List Cond := .code yX5_log cX5_log 3 (some .int) :: ([.fieldLink RX5 159 "FerryTerminal" "turnsEver" "I", .methodLink RX5 295 Lib.Math.min.name, .static Lib.Math.min.name, .initialized "java/lang/Math", .code Lib.Math.min.name Lib.Math.min.code 2 (some .int), .fieldLink RX5 33 "FerryTerminal" "logKinds" "[I", .fieldLink RX5 37 "FerryTerminal" "logTickets" "[I", .fieldLink RX5 40 "FerryTerminal" "logSailings" "[I", .methodLink RX5 47 yX5_within, .static yX5_within, .initialized RX5, .code yX5_within cX5_within 3 (some .boolean)] ++ wsX50)
def wsX5_count : List Cond := .code yX5_count cX5_count 2 (some .int) :: ([.fieldLink RX5 43 "FerryTerminal" "shipCount" "I", .fieldLink RX5 58 "FerryTerminal" "cabinCount" "I", .fieldLink RX5 65 "FerryTerminal" "sailingCount" "I", .fieldLink RX5 100 "FerryTerminal" "ticketCount" "I", .fieldLink RX5 159 "FerryTerminal" "turnsEver" "I"] ++ wsX50)
def wsX5_shareOfTotal : List Cond := .code yX5_shareOfTotal cX5_shareOfTotal 2 (some .int) :: ([] ++ wsX40)
def wsX5_total : List Cond := .code yX5_total cX5_total 7 (some .int) :: ([.fieldLink RX5 100 "FerryTerminal" "ticketCount" "I", .fieldLink RX5 29 "FerryTerminal" "tickets" "[LFerryTerminal$Ticket;", .methodLink RX5 92 yX5_sailingNumbered, .instanceMethod yX5_sailingNumbered, .selects RX5 yX5_sailingNumbered yX5_sailingNumbered, .initialized RX5, .code yX5_sailingNumbered cX5_sailingNumbered 2 (some (.object "FerryTerminal$Sailing")), .fieldLink RX5 65 "FerryTerminal" "sailingCount" "I", .fieldLink RX5 23 "FerryTerminal" "sailings" "[LFerryTerminal$Sailing;", .methodLink RX5 47 yX5_within, .static yX5_within, .code yX5_within cX5_within 3 (some .boolean), .methodLink RX5 298 yX5_shareOfTotal, .static yX5_shareOfTotal, .code yX5_shareOfTotal cX5_shareOfTotal 2 (some .int)] ++ wsX50 ++ wsX40)
def wsX5_kept : List Cond := .code yX5_kept cX5_kept 4 (some .long) :: ([.fieldLink RX5 100 "FerryTerminal" "ticketCount" "I", .fieldLink RX5 29 "FerryTerminal" "tickets" "[LFerryTerminal$Ticket;"] ++ wsX50 ++ wsX40)
def wsX5_overlap : List Cond := .code yX5_overlap cX5_overlap 7 (some .boolean) :: ([.instanceMethod yX0_number, .initialized RX0, .selects RX0 yX0_number yX0_number, .code yX0_number cX0_number 4 (some .int), .fieldLink RX0 9 "FerryTerminal$Alteration" "altered" "LFerryTerminal$Ticket;", .fieldLink RX0 15 "FerryTerminal$Alteration" "what" "I", .fieldLink RX0 19 "FerryTerminal$Alteration" "mask" "I", .instanceMethod yX4_tell, .initialized RX4, .selects RX4 yX4_tell yX4_tell, .code yX4_tell cX4_tell 2 (some .int), .fieldLink RX4 33 "FerryTerminal$Ticket" "trip" "LFerryTerminal$Sailing;", .fieldLink RX4 37 "FerryTerminal$Ticket" "length" "I", .fieldLink RX4 40 "FerryTerminal$Ticket" "height" "I", .fieldLink RX4 43 "FerryTerminal$Ticket" "wish" "I", .fieldLink RX4 9 "FerryTerminal$Ticket" "how" "I", .fieldLink RX4 15 "FerryTerminal$Ticket" "minute" "I", .fieldLink RX4 18 "FerryTerminal$Ticket" "deck" "I", .fieldLink RX4 21 "FerryTerminal$Ticket" "lane" "I", .fieldLink RX4 24 "FerryTerminal$Ticket" "place" "I", .fieldLink RX4 27 "FerryTerminal$Ticket" "cabin" "I", .fieldLink RX4 46 "FerryTerminal$Ticket" "paid" "I", .fieldLink RX4 57 "FerryTerminal$Ticket" "back" "I", .fieldLink RX4 60 "FerryTerminal$Ticket" "timesOn" "I"] ++ wsX40 ++ wsX00 ++ wsX20)
def wsX5_placeAgrees_r1 : List Cond := [Cond.fieldLink RX5 100 "FerryTerminal" "ticketCount" "I", Cond.fieldLink RX5 29 "FerryTerminal" "tickets" "[LFerryTerminal$Ticket;", Cond.instanceMethod yX0_number, Cond.initialized RX0, Cond.selects RX0 yX0_number yX0_number, Cond.code yX0_number cX0_number 4 (some .int), Cond.fieldLink RX0 9 "FerryTerminal$Alteration" "altered" "LFerryTerminal$Ticket;", Cond.fieldLink RX0 15 "FerryTerminal$Alteration" "what" "I", Cond.fieldLink RX0 19 "FerryTerminal$Alteration" "mask" "I", Cond.instanceMethod yX4_tell, Cond.initialized RX4, Cond.selects RX4 yX4_tell yX4_tell, Cond.code yX4_tell cX4_tell 2 (some .int), Cond.fieldLink RX4 33 "FerryTerminal$Ticket" "trip" "LFerryTerminal$Sailing;", Cond.fieldLink RX4 37 "FerryTerminal$Ticket" "length" "I", Cond.fieldLink RX4 40 "FerryTerminal$Ticket" "height" "I", Cond.fieldLink RX4 43 "FerryTerminal$Ticket" "wish" "I", Cond.fieldLink RX4 9 "FerryTerminal$Ticket" "how" "I", Cond.fieldLink RX4 15 "FerryTerminal$Ticket" "minute" "I", Cond.fieldLink RX4 18 "FerryTerminal$Ticket" "deck" "I", Cond.fieldLink RX4 21 "FerryTerminal$Ticket" "lane" "I", Cond.fieldLink RX4 24 "FerryTerminal$Ticket" "place" "I", Cond.fieldLink RX4 27 "FerryTerminal$Ticket" "cabin" "I", Cond.fieldLink RX4 46 "FerryTerminal$Ticket" "paid" "I"]
def wsX5_placeAgrees_r2 : List Cond := [Cond.fieldLink RX4 57 "FerryTerminal$Ticket" "back" "I", Cond.fieldLink RX4 60 "FerryTerminal$Ticket" "timesOn" "I", Cond.instanceMethod yX3_hasLane, Cond.initialized RX3, Cond.selects RX3 yX3_hasLane yX3_hasLane, Cond.code yX3_hasLane cX3_hasLane 3 (some .boolean), Cond.fieldLink RX3 15 "FerryTerminal$Ship" "decks" "I", Cond.fieldLink RX3 18 "FerryTerminal$Ship" "lanes" "I", Cond.methodLink RX5 47 yX5_within, Cond.static yX5_within, Cond.initialized RX5, Cond.code yX5_within cX5_within 3 (some .boolean), Cond.methodLink RX5 326 yX5_overlap, Cond.static yX5_overlap, Cond.code yX5_overlap cX5_overlap 7 (some .boolean)]
def wsX5_placeAgrees : List Cond := .code yX5_placeAgrees cX5_placeAgrees 8 (some .boolean) :: ((wsX5_placeAgrees_r1 ++ wsX5_placeAgrees_r2) ++ wsX40 ++ wsX20 ++ wsX30 ++ wsX50 ++ wsX00)
def wsX5_cabinAgrees_r1 : List Cond := [Cond.fieldLink RX5 58 "FerryTerminal" "cabinCount" "I", Cond.fieldLink RX5 17 "FerryTerminal" "cabins" "[LFerryTerminal$Cabin;", Cond.fieldLink RX5 100 "FerryTerminal" "ticketCount" "I", Cond.fieldLink RX5 29 "FerryTerminal" "tickets" "[LFerryTerminal$Ticket;", Cond.instanceMethod yX0_number, Cond.initialized RX0, Cond.selects RX0 yX0_number yX0_number, Cond.code yX0_number cX0_number 4 (some .int), Cond.fieldLink RX0 9 "FerryTerminal$Alteration" "altered" "LFerryTerminal$Ticket;", Cond.fieldLink RX0 15 "FerryTerminal$Alteration" "what" "I", Cond.fieldLink RX0 19 "FerryTerminal$Alteration" "mask" "I", Cond.instanceMethod yX4_tell, Cond.initialized RX4, Cond.selects RX4 yX4_tell yX4_tell, Cond.code yX4_tell cX4_tell 2 (some .int), Cond.fieldLink RX4 33 "FerryTerminal$Ticket" "trip" "LFerryTerminal$Sailing;", Cond.fieldLink RX4 37 "FerryTerminal$Ticket" "length" "I", Cond.fieldLink RX4 40 "FerryTerminal$Ticket" "height" "I", Cond.fieldLink RX4 43 "FerryTerminal$Ticket" "wish" "I", Cond.fieldLink RX4 9 "FerryTerminal$Ticket" "how" "I", Cond.fieldLink RX4 15 "FerryTerminal$Ticket" "minute" "I", Cond.fieldLink RX4 18 "FerryTerminal$Ticket" "deck" "I", Cond.fieldLink RX4 21 "FerryTerminal$Ticket" "lane" "I", Cond.fieldLink RX4 24 "FerryTerminal$Ticket" "place" "I"]
def wsX5_cabinAgrees_r2 : List Cond := [Cond.fieldLink RX4 27 "FerryTerminal$Ticket" "cabin" "I", Cond.fieldLink RX4 46 "FerryTerminal$Ticket" "paid" "I", Cond.fieldLink RX4 57 "FerryTerminal$Ticket" "back" "I", Cond.fieldLink RX4 60 "FerryTerminal$Ticket" "timesOn" "I", Cond.instanceMethod yX0_mayHaveCabin, Cond.selects RX0 yX0_mayHaveCabin yX0_mayHaveCabin, Cond.code yX0_mayHaveCabin cX0_mayHaveCabin 3 (some .boolean), Cond.methodLink RX0 28 yX0_number, Cond.methodLink RX5 47 yX5_within, Cond.static yX5_within, Cond.initialized RX5, Cond.code yX5_within cX5_within 3 (some .boolean)]
def wsX5_cabinAgrees : List Cond := .code yX5_cabinAgrees cX5_cabinAgrees 7 (some .boolean) :: ((wsX5_cabinAgrees_r1 ++ wsX5_cabinAgrees_r2) ++ wsX40 ++ wsX50 ++ wsX10 ++ wsX20 ++ wsX00)
def wsX5_minuteAgrees_r1 : List Cond := [Cond.constant RX5 121 (200000), Cond.instanceMethod yX0_number, Cond.initialized RX0, Cond.selects RX0 yX0_number yX0_number, Cond.code yX0_number cX0_number 4 (some .int), Cond.fieldLink RX0 9 "FerryTerminal$Alteration" "altered" "LFerryTerminal$Ticket;", Cond.fieldLink RX0 15 "FerryTerminal$Alteration" "what" "I", Cond.fieldLink RX0 19 "FerryTerminal$Alteration" "mask" "I", Cond.instanceMethod yX4_tell, Cond.initialized RX4, Cond.selects RX4 yX4_tell yX4_tell, Cond.code yX4_tell cX4_tell 2 (some .int), Cond.fieldLink RX4 33 "FerryTerminal$Ticket" "trip" "LFerryTerminal$Sailing;", Cond.fieldLink RX4 37 "FerryTerminal$Ticket" "length" "I", Cond.fieldLink RX4 40 "FerryTerminal$Ticket" "height" "I", Cond.fieldLink RX4 43 "FerryTerminal$Ticket" "wish" "I", Cond.fieldLink RX4 9 "FerryTerminal$Ticket" "how" "I", Cond.fieldLink RX4 15 "FerryTerminal$Ticket" "minute" "I", Cond.fieldLink RX4 18 "FerryTerminal$Ticket" "deck" "I", Cond.fieldLink RX4 21 "FerryTerminal$Ticket" "lane" "I", Cond.fieldLink RX4 24 "FerryTerminal$Ticket" "place" "I", Cond.fieldLink RX4 27 "FerryTerminal$Ticket" "cabin" "I", Cond.fieldLink RX4 46 "FerryTerminal$Ticket" "paid" "I", Cond.fieldLink RX4 57 "FerryTerminal$Ticket" "back" "I"]
def wsX5_minuteAgrees_r2 : List Cond := [Cond.fieldLink RX4 60 "FerryTerminal$Ticket" "timesOn" "I", Cond.methodLink RX5 47 yX5_within, Cond.static yX5_within, Cond.initialized RX5, Cond.code yX5_within cX5_within 3 (some .boolean)]
def wsX5_minuteAgrees : List Cond := .code yX5_minuteAgrees cX5_minuteAgrees 3 (some .boolean) :: ((wsX5_minuteAgrees_r1 ++ wsX5_minuteAgrees_r2) ++ wsX00 ++ wsX40 ++ wsX20)
def wsX5_moneyAgrees_r1 : List Cond := [Cond.instanceMethod yX0_number, Cond.initialized RX0, Cond.selects RX0 yX0_number yX0_number, Cond.code yX0_number cX0_number 4 (some .int), Cond.fieldLink RX0 9 "FerryTerminal$Alteration" "altered" "LFerryTerminal$Ticket;", Cond.fieldLink RX0 15 "FerryTerminal$Alteration" "what" "I", Cond.fieldLink RX0 19 "FerryTerminal$Alteration" "mask" "I", Cond.instanceMethod yX4_tell, Cond.initialized RX4, Cond.selects RX4 yX4_tell yX4_tell, Cond.code yX4_tell cX4_tell 2 (some .int), Cond.fieldLink RX4 33 "FerryTerminal$Ticket" "trip" "LFerryTerminal$Sailing;", Cond.fieldLink RX4 37 "FerryTerminal$Ticket" "length" "I", Cond.fieldLink RX4 40 "FerryTerminal$Ticket" "height" "I", Cond.fieldLink RX4 43 "FerryTerminal$Ticket" "wish" "I", Cond.fieldLink RX4 9 "FerryTerminal$Ticket" "how" "I", Cond.fieldLink RX4 15 "FerryTerminal$Ticket" "minute" "I", Cond.fieldLink RX4 18 "FerryTerminal$Ticket" "deck" "I", Cond.fieldLink RX4 21 "FerryTerminal$Ticket" "lane" "I", Cond.fieldLink RX4 24 "FerryTerminal$Ticket" "place" "I", Cond.fieldLink RX4 27 "FerryTerminal$Ticket" "cabin" "I", Cond.fieldLink RX4 46 "FerryTerminal$Ticket" "paid" "I", Cond.fieldLink RX4 57 "FerryTerminal$Ticket" "back" "I", Cond.fieldLink RX4 60 "FerryTerminal$Ticket" "timesOn" "I"]
def wsX5_moneyAgrees_r2 : List Cond := [Cond.methodLink RX5 47 yX5_within, Cond.static yX5_within, Cond.initialized RX5, Cond.code yX5_within cX5_within 3 (some .boolean)]
def wsX5_moneyAgrees : List Cond := .code yX5_moneyAgrees cX5_moneyAgrees 5 (some .boolean) :: ((wsX5_moneyAgrees_r1 ++ wsX5_moneyAgrees_r2) ++ wsX00 ++ wsX40 ++ wsX20)
def wsX5_firstWrong_r1 : List Cond := [Cond.fieldLink RX5 100 "FerryTerminal" "ticketCount" "I", Cond.fieldLink RX5 29 "FerryTerminal" "tickets" "[LFerryTerminal$Ticket;", Cond.methodLink RX5 311 yX5_placeAgrees, Cond.instanceMethod yX5_placeAgrees, Cond.selects RX5 yX5_placeAgrees yX5_placeAgrees, Cond.initialized RX5, Cond.code yX5_placeAgrees cX5_placeAgrees 8 (some .boolean), Cond.instanceMethod yX0_number, Cond.initialized RX0, Cond.selects RX0 yX0_number yX0_number, Cond.code yX0_number cX0_number 4 (some .int), Cond.fieldLink RX0 9 "FerryTerminal$Alteration" "altered" "LFerryTerminal$Ticket;", Cond.fieldLink RX0 15 "FerryTerminal$Alteration" "what" "I", Cond.fieldLink RX0 19 "FerryTerminal$Alteration" "mask" "I", Cond.instanceMethod yX4_tell, Cond.initialized RX4, Cond.selects RX4 yX4_tell yX4_tell, Cond.code yX4_tell cX4_tell 2 (some .int), Cond.fieldLink RX4 33 "FerryTerminal$Ticket" "trip" "LFerryTerminal$Sailing;", Cond.fieldLink RX4 37 "FerryTerminal$Ticket" "length" "I", Cond.fieldLink RX4 40 "FerryTerminal$Ticket" "height" "I", Cond.fieldLink RX4 43 "FerryTerminal$Ticket" "wish" "I", Cond.fieldLink RX4 9 "FerryTerminal$Ticket" "how" "I", Cond.fieldLink RX4 15 "FerryTerminal$Ticket" "minute" "I"]
def wsX5_firstWrong_r2 : List Cond := [Cond.fieldLink RX4 18 "FerryTerminal$Ticket" "deck" "I", Cond.fieldLink RX4 21 "FerryTerminal$Ticket" "lane" "I", Cond.fieldLink RX4 24 "FerryTerminal$Ticket" "place" "I", Cond.fieldLink RX4 27 "FerryTerminal$Ticket" "cabin" "I", Cond.fieldLink RX4 46 "FerryTerminal$Ticket" "paid" "I", Cond.fieldLink RX4 57 "FerryTerminal$Ticket" "back" "I", Cond.fieldLink RX4 60 "FerryTerminal$Ticket" "timesOn" "I", Cond.instanceMethod yX3_hasLane, Cond.initialized RX3, Cond.selects RX3 yX3_hasLane yX3_hasLane, Cond.code yX3_hasLane cX3_hasLane 3 (some .boolean), Cond.fieldLink RX3 15 "FerryTerminal$Ship" "decks" "I", Cond.fieldLink RX3 18 "FerryTerminal$Ship" "lanes" "I", Cond.methodLink RX5 47 yX5_within, Cond.static yX5_within, Cond.code yX5_within cX5_within 3 (some .boolean), Cond.methodLink RX5 326 yX5_overlap, Cond.static yX5_overlap, Cond.code yX5_overlap cX5_overlap 7 (some .boolean), Cond.methodLink RX5 315 yX5_cabinAgrees, Cond.instanceMethod yX5_cabinAgrees, Cond.selects RX5 yX5_cabinAgrees yX5_cabinAgrees, Cond.code yX5_cabinAgrees cX5_cabinAgrees 7 (some .boolean), Cond.fieldLink RX5 58 "FerryTerminal" "cabinCount" "I"]
def wsX5_firstWrong_r3 : List Cond := [Cond.fieldLink RX5 17 "FerryTerminal" "cabins" "[LFerryTerminal$Cabin;", Cond.instanceMethod yX0_mayHaveCabin, Cond.selects RX0 yX0_mayHaveCabin yX0_mayHaveCabin, Cond.code yX0_mayHaveCabin cX0_mayHaveCabin 3 (some .boolean), Cond.methodLink RX0 28 yX0_number, Cond.methodLink RX5 318 yX5_minuteAgrees, Cond.static yX5_minuteAgrees, Cond.code yX5_minuteAgrees cX5_minuteAgrees 3 (some .boolean), Cond.constant RX5 121 (200000), Cond.methodLink RX5 321 yX5_moneyAgrees, Cond.static yX5_moneyAgrees, Cond.code yX5_moneyAgrees cX5_moneyAgrees 5 (some .boolean)]
def wsX5_firstWrong : List Cond := .code yX5_firstWrong cX5_firstWrong 4 (some .int) :: ((wsX5_firstWrong_r1 ++ (wsX5_firstWrong_r2 ++ wsX5_firstWrong_r3)) ++ wsX50 ++ wsX40 ++ wsX20 ++ wsX30 ++ wsX00 ++ wsX10)
def wsX5_audit_r1 : List Cond := [Cond.classLink RX5 302 RX0, Cond.instantiable RX0 3, Cond.initialized RX0, Cond.instanceMethod yX0_init, Cond.code yX0_init cX0_init 4 none, Cond.methodLink RX0 3 objectInit, Cond.instanceMethod objectInit, Cond.code objectInit ⟨#[0xb1]⟩ 1 none, Cond.fieldLink RX0 9 "FerryTerminal$Alteration" "altered" "LFerryTerminal$Ticket;", Cond.fieldLink RX0 15 "FerryTerminal$Alteration" "what" "I", Cond.fieldLink RX0 19 "FerryTerminal$Alteration" "mask" "I", Cond.methodLink RX5 307 yX5_firstWrong, Cond.instanceMethod yX5_firstWrong, Cond.selects RX5 yX5_firstWrong yX5_firstWrong, Cond.initialized RX5, Cond.code yX5_firstWrong cX5_firstWrong 4 (some .int), Cond.fieldLink RX5 100 "FerryTerminal" "ticketCount" "I", Cond.fieldLink RX5 29 "FerryTerminal" "tickets" "[LFerryTerminal$Ticket;", Cond.methodLink RX5 311 yX5_placeAgrees, Cond.instanceMethod yX5_placeAgrees, Cond.selects RX5 yX5_placeAgrees yX5_placeAgrees, Cond.code yX5_placeAgrees cX5_placeAgrees 8 (some .boolean), Cond.instanceMethod yX0_number, Cond.selects RX0 yX0_number yX0_number]
def wsX5_audit_r2 : List Cond := [Cond.code yX0_number cX0_number 4 (some .int), Cond.instanceMethod yX4_tell, Cond.initialized RX4, Cond.selects RX4 yX4_tell yX4_tell, Cond.code yX4_tell cX4_tell 2 (some .int), Cond.fieldLink RX4 33 "FerryTerminal$Ticket" "trip" "LFerryTerminal$Sailing;", Cond.fieldLink RX4 37 "FerryTerminal$Ticket" "length" "I", Cond.fieldLink RX4 40 "FerryTerminal$Ticket" "height" "I", Cond.fieldLink RX4 43 "FerryTerminal$Ticket" "wish" "I", Cond.fieldLink RX4 9 "FerryTerminal$Ticket" "how" "I", Cond.fieldLink RX4 15 "FerryTerminal$Ticket" "minute" "I", Cond.fieldLink RX4 18 "FerryTerminal$Ticket" "deck" "I", Cond.fieldLink RX4 21 "FerryTerminal$Ticket" "lane" "I", Cond.fieldLink RX4 24 "FerryTerminal$Ticket" "place" "I", Cond.fieldLink RX4 27 "FerryTerminal$Ticket" "cabin" "I", Cond.fieldLink RX4 46 "FerryTerminal$Ticket" "paid" "I", Cond.fieldLink RX4 57 "FerryTerminal$Ticket" "back" "I", Cond.fieldLink RX4 60 "FerryTerminal$Ticket" "timesOn" "I", Cond.instanceMethod yX3_hasLane, Cond.initialized RX3, Cond.selects RX3 yX3_hasLane yX3_hasLane, Cond.code yX3_hasLane cX3_hasLane 3 (some .boolean), Cond.fieldLink RX3 15 "FerryTerminal$Ship" "decks" "I", Cond.fieldLink RX3 18 "FerryTerminal$Ship" "lanes" "I"]
def wsX5_audit_r3 : List Cond := [Cond.methodLink RX5 47 yX5_within, Cond.static yX5_within, Cond.code yX5_within cX5_within 3 (some .boolean), Cond.methodLink RX5 326 yX5_overlap, Cond.static yX5_overlap, Cond.code yX5_overlap cX5_overlap 7 (some .boolean), Cond.methodLink RX5 315 yX5_cabinAgrees, Cond.instanceMethod yX5_cabinAgrees, Cond.selects RX5 yX5_cabinAgrees yX5_cabinAgrees, Cond.code yX5_cabinAgrees cX5_cabinAgrees 7 (some .boolean), Cond.fieldLink RX5 58 "FerryTerminal" "cabinCount" "I", Cond.fieldLink RX5 17 "FerryTerminal" "cabins" "[LFerryTerminal$Cabin;", Cond.instanceMethod yX0_mayHaveCabin, Cond.selects RX0 yX0_mayHaveCabin yX0_mayHaveCabin, Cond.code yX0_mayHaveCabin cX0_mayHaveCabin 3 (some .boolean), Cond.methodLink RX0 28 yX0_number, Cond.methodLink RX5 318 yX5_minuteAgrees, Cond.static yX5_minuteAgrees, Cond.code yX5_minuteAgrees cX5_minuteAgrees 3 (some .boolean), Cond.constant RX5 121 (200000), Cond.methodLink RX5 321 yX5_moneyAgrees, Cond.static yX5_moneyAgrees, Cond.code yX5_moneyAgrees cX5_moneyAgrees 5 (some .boolean), Cond.methodLink RX5 116 yX5_ticketNumbered]
def wsX5_audit_r4 : List Cond := [Cond.instanceMethod yX5_ticketNumbered, Cond.selects RX5 yX5_ticketNumbered yX5_ticketNumbered, Cond.code yX5_ticketNumbered cX5_ticketNumbered 2 (some (.object "FerryTerminal$Ticket"))]
def wsX5_audit : List Cond := .code yX5_audit cX5_audit 5 (some .int) :: ((wsX5_audit_r1 ++ (wsX5_audit_r2 ++ (wsX5_audit_r3 ++ wsX5_audit_r4))) ++ wsX00 ++ wsX50 ++ wsX40 ++ wsX20 ++ wsX30 ++ wsX10)
def wsX6_init_r1 : List Cond := [Cond.methodLink RX6 1 objectInit, Cond.instanceMethod objectInit, Cond.code objectInit ⟨#[0xb1]⟩ 1 none, Cond.arrayClass .int, Cond.fieldLink RX6 7 "FerryTerminalModel" "decks" "[I", Cond.fieldLink RX6 13 "FerryTerminalModel" "lanes" "[I", Cond.fieldLink RX6 16 "FerryTerminalModel" "lengths" "[I", Cond.arrayClass .boolean, Cond.fieldLink RX6 19 "FerryTerminalModel" "half" "[Z", Cond.fieldLink RX6 23 "FerryTerminalModel" "cabinShip" "[I", Cond.fieldLink RX6 26 "FerryTerminalModel" "beds" "[I", Cond.fieldLink RX6 29 "FerryTerminalModel" "ship" "[I", Cond.fieldLink RX6 32 "FerryTerminalModel" "minute" "[I", Cond.fieldLink RX6 35 "FerryTerminalModel" "line" "[I", Cond.fieldLink RX6 38 "FerryTerminalModel" "how" "[I", Cond.fieldLink RX6 41 "FerryTerminalModel" "done" "[I", Cond.fieldLink RX6 44 "FerryTerminalModel" "recall" "[I", Cond.fieldLink RX6 47 "FerryTerminalModel" "begun" "[I", Cond.fieldLink RX6 50 "FerryTerminalModel" "stage" "[I", Cond.fieldLink RX6 53 "FerryTerminalModel" "isOff" "[Z", Cond.fieldLink RX6 56 "FerryTerminalModel" "ticket" "[I", Cond.fieldLink RX6 59 "FerryTerminalModel" "boarded" "[I", Cond.fieldLink RX6 62 "FerryTerminalModel" "logKind" "[I", Cond.fieldLink RX6 65 "FerryTerminalModel" "logTicket" "[I"]
def wsX6_init_r2 : List Cond := [Cond.fieldLink RX6 68 "FerryTerminalModel" "logSailing" "[I", Cond.fieldLink RX6 71 "FerryTerminalModel" "covered" "[Z"]
def wsX6_init : List Cond := .code yX6_init cX6_init 1 none :: ((wsX6_init_r1 ++ wsX6_init_r2) ++ wsX60)
def wsX6_isIn : List Cond := .code yX6_isIn cX6_isIn 3 (some .boolean) :: ([])
def wsX6_of : List Cond := .code yX6_of cX6_of 3 (some .int) :: ([.fieldLink RX6 56 "FerryTerminalModel" "ticket" "[I"] ++ wsX60)
def wsX6_put : List Cond := .code yX6_put cX6_put 4 none :: ([.fieldLink RX6 56 "FerryTerminalModel" "ticket" "[I"] ++ wsX60)
def wsX6_isTicket : List Cond := .code yX6_isTicket cX6_isTicket 2 (some .boolean) :: ([.fieldLink RX6 74 "FerryTerminalModel" "tickets" "I"] ++ wsX60)
def wsX6_isSailing : List Cond := .code yX6_isSailing cX6_isSailing 2 (some .boolean) :: ([.fieldLink RX6 78 "FerryTerminalModel" "sailings" "I"] ++ wsX60)
def wsX6_isShip : List Cond := .code yX6_isShip cX6_isShip 2 (some .boolean) :: ([.fieldLink RX6 81 "FerryTerminalModel" "ships" "I"] ++ wsX60)
def wsX6_ship : List Cond := .code yX6_ship cX6_ship 5 (some .int) :: ([.fieldLink RX6 81 "FerryTerminalModel" "ships" "I", .fieldLink RX6 7 "FerryTerminalModel" "decks" "[I", .fieldLink RX6 13 "FerryTerminalModel" "lanes" "[I", .fieldLink RX6 16 "FerryTerminalModel" "lengths" "[I", .fieldLink RX6 19 "FerryTerminalModel" "half" "[Z", .methodLink RX6 84 yX6_isIn, .static yX6_isIn, .initialized RX6, .code yX6_isIn cX6_isIn 3 (some .boolean)] ++ wsX60)
def wsX6_cabin : List Cond := .code yX6_cabin cX6_cabin 3 (some .int) :: ([.fieldLink RX6 92 "FerryTerminalModel" "cabins" "I", .fieldLink RX6 23 "FerryTerminalModel" "cabinShip" "[I", .fieldLink RX6 26 "FerryTerminalModel" "beds" "[I", .methodLink RX6 88 yX6_isShip, .instanceMethod yX6_isShip, .selects RX6 yX6_isShip yX6_isShip, .initialized RX6, .code yX6_isShip cX6_isShip 2 (some .boolean), .fieldLink RX6 81 "FerryTerminalModel" "ships" "I", .methodLink RX6 84 yX6_isIn, .static yX6_isIn, .code yX6_isIn cX6_isIn 3 (some .boolean)] ++ wsX60)
def wsX6_sailing : List Cond := .code yX6_sailing cX6_sailing 5 (some .int) :: ([.constant RX6 95 (100000), .fieldLink RX6 78 "FerryTerminalModel" "sailings" "I", .fieldLink RX6 29 "FerryTerminalModel" "ship" "[I", .fieldLink RX6 38 "FerryTerminalModel" "how" "[I", .fieldLink RX6 32 "FerryTerminalModel" "minute" "[I", .methodLink RX6 96 Lib.Math.abs.name, .static Lib.Math.abs.name, .initialized "java/lang/Math", .code Lib.Math.abs.name Lib.Math.abs.code 1 (some .int), .fieldLink RX6 35 "FerryTerminalModel" "line" "[I", .fieldLink RX6 44 "FerryTerminalModel" "recall" "[I", .fieldLink RX6 47 "FerryTerminalModel" "begun" "[I", .methodLink RX6 88 yX6_isShip, .instanceMethod yX6_isShip, .selects RX6 yX6_isShip yX6_isShip, .initialized RX6, .code yX6_isShip cX6_isShip 2 (some .boolean), .fieldLink RX6 81 "FerryTerminalModel" "ships" "I", .methodLink RX6 84 yX6_isIn, .static yX6_isIn, .code yX6_isIn cX6_isIn 3 (some .boolean)] ++ wsX60)
def wsX6_isToGo : List Cond := .code yX6_isToGo cX6_isToGo 2 (some .boolean) :: ([.fieldLink RX6 38 "FerryTerminalModel" "how" "[I"] ++ wsX60)
def wsX6_book : List Cond := .code yX6_book cX6_book 8 (some .int) :: ([.fieldLink RX6 44 "FerryTerminalModel" "recall" "[I", .fieldLink RX6 16 "FerryTerminalModel" "lengths" "[I", .fieldLink RX6 29 "FerryTerminalModel" "ship" "[I", .fieldLink RX6 74 "FerryTerminalModel" "tickets" "I", .fieldLink RX6 35 "FerryTerminalModel" "line" "[I", .methodLink RX6 102 yX6_isSailing, .instanceMethod yX6_isSailing, .selects RX6 yX6_isSailing yX6_isSailing, .initialized RX6, .code yX6_isSailing cX6_isSailing 2 (some .boolean), .fieldLink RX6 78 "FerryTerminalModel" "sailings" "I", .methodLink RX6 84 yX6_isIn, .static yX6_isIn, .code yX6_isIn cX6_isIn 3 (some .boolean), .methodLink RX6 105 yX6_isToGo, .instanceMethod yX6_isToGo, .selects RX6 yX6_isToGo yX6_isToGo, .code yX6_isToGo cX6_isToGo 2 (some .boolean), .fieldLink RX6 38 "FerryTerminalModel" "how" "[I", .methodLink RX6 108 yX6_put, .instanceMethod yX6_put, .selects RX6 yX6_put yX6_put, .code yX6_put cX6_put 4 none, .fieldLink RX6 56 "FerryTerminalModel" "ticket" "[I"] ++ wsX60)
def wsX6_arrive : List Cond := .code yX6_arrive cX6_arrive 3 (some .boolean) :: ([.constant RX6 119 (200000), .methodLink RX6 112 yX6_isTicket, .instanceMethod yX6_isTicket, .selects RX6 yX6_isTicket yX6_isTicket, .initialized RX6, .code yX6_isTicket cX6_isTicket 2 (some .boolean), .fieldLink RX6 74 "FerryTerminalModel" "tickets" "I", .methodLink RX6 115 yX6_of, .instanceMethod yX6_of, .selects RX6 yX6_of yX6_of, .code yX6_of cX6_of 3 (some .int), .fieldLink RX6 56 "FerryTerminalModel" "ticket" "[I", .methodLink RX6 84 yX6_isIn, .static yX6_isIn, .code yX6_isIn cX6_isIn 3 (some .boolean), .methodLink RX6 105 yX6_isToGo, .instanceMethod yX6_isToGo, .selects RX6 yX6_isToGo yX6_isToGo, .code yX6_isToGo cX6_isToGo 2 (some .boolean), .fieldLink RX6 38 "FerryTerminalModel" "how" "[I", .methodLink RX6 108 yX6_put, .instanceMethod yX6_put, .selects RX6 yX6_put yX6_put, .code yX6_put cX6_put 4 none] ++ wsX60)
def wsX6_openOf : List Cond := .code yX6_openOf cX6_openOf 3 (some .int) :: ([.fieldLink RX6 78 "FerryTerminalModel" "sailings" "I", .fieldLink RX6 29 "FerryTerminalModel" "ship" "[I", .fieldLink RX6 38 "FerryTerminalModel" "how" "[I"] ++ wsX60)
def wsX6_open : List Cond := .code yX6_open cX6_open 2 (some .boolean) :: ([.fieldLink RX6 38 "FerryTerminalModel" "how" "[I", .fieldLink RX6 29 "FerryTerminalModel" "ship" "[I", .methodLink RX6 102 yX6_isSailing, .instanceMethod yX6_isSailing, .selects RX6 yX6_isSailing yX6_isSailing, .initialized RX6, .code yX6_isSailing cX6_isSailing 2 (some .boolean), .fieldLink RX6 78 "FerryTerminalModel" "sailings" "I", .methodLink RX6 120 yX6_openOf, .instanceMethod yX6_openOf, .selects RX6 yX6_openOf yX6_openOf, .code yX6_openOf cX6_openOf 3 (some .int)] ++ wsX60)
def wsX6_isAboard : List Cond := .code yX6_isAboard cX6_isAboard 3 (some .boolean) :: ([.methodLink RX6 115 yX6_of, .instanceMethod yX6_of, .selects RX6 yX6_of yX6_of, .initialized RX6, .code yX6_of cX6_of 3 (some .int), .fieldLink RX6 56 "FerryTerminalModel" "ticket" "[I"] ++ wsX60)
def wsX6_recallTurn : List Cond := .code yX6_recallTurn cX6_recallTurn 4 (some .int) :: ([.fieldLink RX6 74 "FerryTerminalModel" "tickets" "I", .fieldLink RX6 157 "FerryTerminalModel" "about" "I", .fieldLink RX6 59 "FerryTerminalModel" "boarded" "[I", .methodLink RX6 130 yX6_isAboard, .instanceMethod yX6_isAboard, .selects RX6 yX6_isAboard yX6_isAboard, .initialized RX6, .code yX6_isAboard cX6_isAboard 3 (some .boolean), .methodLink RX6 115 yX6_of, .instanceMethod yX6_of, .selects RX6 yX6_of yX6_of, .code yX6_of cX6_of 3 (some .int), .fieldLink RX6 56 "FerryTerminalModel" "ticket" "[I"] ++ wsX60)
def wsX6_isLate : List Cond := .code yX6_isLate cX6_isLate 3 (some .boolean) :: ([.fieldLink RX6 32 "FerryTerminalModel" "minute" "[I", .methodLink RX6 115 yX6_of, .instanceMethod yX6_of, .selects RX6 yX6_of yX6_of, .initialized RX6, .code yX6_of cX6_of 3 (some .int), .fieldLink RX6 56 "FerryTerminalModel" "ticket" "[I"] ++ wsX60)
def wsX6_isAhead : List Cond := .code yX6_isAhead cX6_isAhead 4 (some .boolean) :: ([.methodLink RX6 169 yX6_isLate, .instanceMethod yX6_isLate, .selects RX6 yX6_isLate yX6_isLate, .initialized RX6, .code yX6_isLate cX6_isLate 3 (some .boolean), .fieldLink RX6 32 "FerryTerminalModel" "minute" "[I", .methodLink RX6 115 yX6_of, .instanceMethod yX6_of, .selects RX6 yX6_of yX6_of, .code yX6_of cX6_of 3 (some .int), .fieldLink RX6 56 "FerryTerminalModel" "ticket" "[I"] ++ wsX60)
def wsX6_nextTurn_r1 : List Cond := [Cond.fieldLink RX6 157 "FerryTerminalModel" "about" "I", Cond.fieldLink RX6 38 "FerryTerminalModel" "how" "[I", Cond.fieldLink RX6 53 "FerryTerminalModel" "isOff" "[Z", Cond.fieldLink RX6 74 "FerryTerminalModel" "tickets" "I", Cond.fieldLink RX6 47 "FerryTerminalModel" "begun" "[I", Cond.methodLink RX6 160 yX6_recallTurn, Cond.instanceMethod yX6_recallTurn, Cond.selects RX6 yX6_recallTurn yX6_recallTurn, Cond.initialized RX6, Cond.code yX6_recallTurn cX6_recallTurn 4 (some .int), Cond.fieldLink RX6 59 "FerryTerminalModel" "boarded" "[I", Cond.methodLink RX6 130 yX6_isAboard, Cond.instanceMethod yX6_isAboard, Cond.selects RX6 yX6_isAboard yX6_isAboard, Cond.code yX6_isAboard cX6_isAboard 3 (some .boolean), Cond.methodLink RX6 115 yX6_of, Cond.instanceMethod yX6_of, Cond.selects RX6 yX6_of yX6_of, Cond.code yX6_of cX6_of 3 (some .int), Cond.fieldLink RX6 56 "FerryTerminalModel" "ticket" "[I", Cond.methodLink RX6 163 yX6_isAhead, Cond.instanceMethod yX6_isAhead, Cond.selects RX6 yX6_isAhead yX6_isAhead, Cond.code yX6_isAhead cX6_isAhead 4 (some .boolean)]
def wsX6_nextTurn_r2 : List Cond := [Cond.methodLink RX6 169 yX6_isLate, Cond.instanceMethod yX6_isLate, Cond.selects RX6 yX6_isLate yX6_isLate, Cond.code yX6_isLate cX6_isLate 3 (some .boolean), Cond.fieldLink RX6 32 "FerryTerminalModel" "minute" "[I"]
def wsX6_nextTurn : List Cond := .code yX6_nextTurn cX6_nextTurn 3 (some .int) :: ((wsX6_nextTurn_r1 ++ wsX6_nextTurn_r2) ++ wsX60)
def wsX6_hasTurn_r1 : List Cond := [Cond.methodLink RX6 166 yX6_nextTurn, Cond.instanceMethod yX6_nextTurn, Cond.selects RX6 yX6_nextTurn yX6_nextTurn, Cond.initialized RX6, Cond.code yX6_nextTurn cX6_nextTurn 3 (some .int), Cond.fieldLink RX6 157 "FerryTerminalModel" "about" "I", Cond.fieldLink RX6 38 "FerryTerminalModel" "how" "[I", Cond.fieldLink RX6 53 "FerryTerminalModel" "isOff" "[Z", Cond.fieldLink RX6 74 "FerryTerminalModel" "tickets" "I", Cond.fieldLink RX6 47 "FerryTerminalModel" "begun" "[I", Cond.methodLink RX6 160 yX6_recallTurn, Cond.instanceMethod yX6_recallTurn, Cond.selects RX6 yX6_recallTurn yX6_recallTurn, Cond.code yX6_recallTurn cX6_recallTurn 4 (some .int), Cond.fieldLink RX6 59 "FerryTerminalModel" "boarded" "[I", Cond.methodLink RX6 130 yX6_isAboard, Cond.instanceMethod yX6_isAboard, Cond.selects RX6 yX6_isAboard yX6_isAboard, Cond.code yX6_isAboard cX6_isAboard 3 (some .boolean), Cond.methodLink RX6 115 yX6_of, Cond.instanceMethod yX6_of, Cond.selects RX6 yX6_of yX6_of, Cond.code yX6_of cX6_of 3 (some .int), Cond.fieldLink RX6 56 "FerryTerminalModel" "ticket" "[I"]
def wsX6_hasTurn_r2 : List Cond := [Cond.methodLink RX6 163 yX6_isAhead, Cond.instanceMethod yX6_isAhead, Cond.selects RX6 yX6_isAhead yX6_isAhead, Cond.code yX6_isAhead cX6_isAhead 4 (some .boolean), Cond.methodLink RX6 169 yX6_isLate, Cond.instanceMethod yX6_isLate, Cond.selects RX6 yX6_isLate yX6_isLate, Cond.code yX6_isLate cX6_isLate 3 (some .boolean), Cond.fieldLink RX6 32 "FerryTerminalModel" "minute" "[I"]
def wsX6_hasTurn : List Cond := .code yX6_hasTurn cX6_hasTurn 2 (some .boolean) :: ((wsX6_hasTurn_r1 ++ wsX6_hasTurn_r2) ++ wsX60)
def wsX6_lookAtRecall_r1 : List Cond := [Cond.fieldLink RX6 44 "FerryTerminalModel" "recall" "[I", Cond.fieldLink RX6 53 "FerryTerminalModel" "isOff" "[Z", Cond.fieldLink RX6 47 "FerryTerminalModel" "begun" "[I", Cond.fieldLink RX6 38 "FerryTerminalModel" "how" "[I", Cond.methodLink RX6 127 yX6_hasTurn, Cond.instanceMethod yX6_hasTurn, Cond.selects RX6 yX6_hasTurn yX6_hasTurn, Cond.initialized RX6, Cond.code yX6_hasTurn cX6_hasTurn 2 (some .boolean), Cond.methodLink RX6 166 yX6_nextTurn, Cond.instanceMethod yX6_nextTurn, Cond.selects RX6 yX6_nextTurn yX6_nextTurn, Cond.code yX6_nextTurn cX6_nextTurn 3 (some .int), Cond.fieldLink RX6 157 "FerryTerminalModel" "about" "I", Cond.fieldLink RX6 74 "FerryTerminalModel" "tickets" "I", Cond.methodLink RX6 160 yX6_recallTurn, Cond.instanceMethod yX6_recallTurn, Cond.selects RX6 yX6_recallTurn yX6_recallTurn, Cond.code yX6_recallTurn cX6_recallTurn 4 (some .int), Cond.fieldLink RX6 59 "FerryTerminalModel" "boarded" "[I", Cond.methodLink RX6 130 yX6_isAboard, Cond.instanceMethod yX6_isAboard, Cond.selects RX6 yX6_isAboard yX6_isAboard, Cond.code yX6_isAboard cX6_isAboard 3 (some .boolean)]
def wsX6_lookAtRecall_r2 : List Cond := [Cond.methodLink RX6 115 yX6_of, Cond.instanceMethod yX6_of, Cond.selects RX6 yX6_of yX6_of, Cond.code yX6_of cX6_of 3 (some .int), Cond.fieldLink RX6 56 "FerryTerminalModel" "ticket" "[I", Cond.methodLink RX6 163 yX6_isAhead, Cond.instanceMethod yX6_isAhead, Cond.selects RX6 yX6_isAhead yX6_isAhead, Cond.code yX6_isAhead cX6_isAhead 4 (some .boolean), Cond.methodLink RX6 169 yX6_isLate, Cond.instanceMethod yX6_isLate, Cond.selects RX6 yX6_isLate yX6_isLate, Cond.code yX6_isLate cX6_isLate 3 (some .boolean), Cond.fieldLink RX6 32 "FerryTerminalModel" "minute" "[I"]
def wsX6_lookAtRecall : List Cond := .code yX6_lookAtRecall cX6_lookAtRecall 2 none :: ((wsX6_lookAtRecall_r1 ++ wsX6_lookAtRecall_r2) ++ wsX60)
def wsX6_recall_r1 : List Cond := [Cond.fieldLink RX6 38 "FerryTerminalModel" "how" "[I", Cond.fieldLink RX6 44 "FerryTerminalModel" "recall" "[I", Cond.methodLink RX6 102 yX6_isSailing, Cond.instanceMethod yX6_isSailing, Cond.selects RX6 yX6_isSailing yX6_isSailing, Cond.initialized RX6, Cond.code yX6_isSailing cX6_isSailing 2 (some .boolean), Cond.fieldLink RX6 78 "FerryTerminalModel" "sailings" "I", Cond.methodLink RX6 84 yX6_isIn, Cond.static yX6_isIn, Cond.code yX6_isIn cX6_isIn 3 (some .boolean), Cond.methodLink RX6 123 yX6_lookAtRecall, Cond.instanceMethod yX6_lookAtRecall, Cond.selects RX6 yX6_lookAtRecall yX6_lookAtRecall, Cond.code yX6_lookAtRecall cX6_lookAtRecall 2 none, Cond.fieldLink RX6 53 "FerryTerminalModel" "isOff" "[Z", Cond.fieldLink RX6 47 "FerryTerminalModel" "begun" "[I", Cond.methodLink RX6 127 yX6_hasTurn, Cond.instanceMethod yX6_hasTurn, Cond.selects RX6 yX6_hasTurn yX6_hasTurn, Cond.code yX6_hasTurn cX6_hasTurn 2 (some .boolean), Cond.methodLink RX6 166 yX6_nextTurn, Cond.instanceMethod yX6_nextTurn, Cond.selects RX6 yX6_nextTurn yX6_nextTurn]
def wsX6_recall_r2 : List Cond := [Cond.code yX6_nextTurn cX6_nextTurn 3 (some .int), Cond.fieldLink RX6 157 "FerryTerminalModel" "about" "I", Cond.fieldLink RX6 74 "FerryTerminalModel" "tickets" "I", Cond.methodLink RX6 160 yX6_recallTurn, Cond.instanceMethod yX6_recallTurn, Cond.selects RX6 yX6_recallTurn yX6_recallTurn, Cond.code yX6_recallTurn cX6_recallTurn 4 (some .int), Cond.fieldLink RX6 59 "FerryTerminalModel" "boarded" "[I", Cond.methodLink RX6 130 yX6_isAboard, Cond.instanceMethod yX6_isAboard, Cond.selects RX6 yX6_isAboard yX6_isAboard, Cond.code yX6_isAboard cX6_isAboard 3 (some .boolean), Cond.methodLink RX6 115 yX6_of, Cond.instanceMethod yX6_of, Cond.selects RX6 yX6_of yX6_of, Cond.code yX6_of cX6_of 3 (some .int), Cond.fieldLink RX6 56 "FerryTerminalModel" "ticket" "[I", Cond.methodLink RX6 163 yX6_isAhead, Cond.instanceMethod yX6_isAhead, Cond.selects RX6 yX6_isAhead yX6_isAhead, Cond.code yX6_isAhead cX6_isAhead 4 (some .boolean), Cond.methodLink RX6 169 yX6_isLate, Cond.instanceMethod yX6_isLate, Cond.selects RX6 yX6_isLate yX6_isLate]
def wsX6_recall_r3 : List Cond := [Cond.code yX6_isLate cX6_isLate 3 (some .boolean), Cond.fieldLink RX6 32 "FerryTerminalModel" "minute" "[I"]
def wsX6_recall : List Cond := .code yX6_recall cX6_recall 3 (some .boolean) :: ((wsX6_recall_r1 ++ (wsX6_recall_r2 ++ wsX6_recall_r3)) ++ wsX60)
def wsX6_covers : List Cond := .code yX6_covers cX6_covers 6 (some .int) :: ([.fieldLink RX6 74 "FerryTerminalModel" "tickets" "I", .methodLink RX6 130 yX6_isAboard, .instanceMethod yX6_isAboard, .selects RX6 yX6_isAboard yX6_isAboard, .initialized RX6, .code yX6_isAboard cX6_isAboard 3 (some .boolean), .methodLink RX6 115 yX6_of, .instanceMethod yX6_of, .selects RX6 yX6_of yX6_of, .code yX6_of cX6_of 3 (some .int), .fieldLink RX6 56 "FerryTerminalModel" "ticket" "[I"] ++ wsX60)
def wsX6_measure : List Cond := .code yX6_measure cX6_measure 10 none :: ([.fieldLink RX6 16 "FerryTerminalModel" "lengths" "[I", .fieldLink RX6 71 "FerryTerminalModel" "covered" "[Z", .fieldLink RX6 74 "FerryTerminalModel" "tickets" "I", .fieldLink RX6 134 "FerryTerminalModel" "free" "I", .fieldLink RX6 137 "FerryTerminalModel" "longest" "I", .fieldLink RX6 140 "FerryTerminalModel" "firstGap" "I", .methodLink RX6 143 Lib.Math.max.name, .static Lib.Math.max.name, .initialized "java/lang/Math", .code Lib.Math.max.name Lib.Math.max.code 2 (some .int), .methodLink RX6 130 yX6_isAboard, .instanceMethod yX6_isAboard, .selects RX6 yX6_isAboard yX6_isAboard, .initialized RX6, .code yX6_isAboard cX6_isAboard 3 (some .boolean), .methodLink RX6 115 yX6_of, .instanceMethod yX6_of, .selects RX6 yX6_of yX6_of, .code yX6_of cX6_of 3 (some .int), .fieldLink RX6 56 "FerryTerminalModel" "ticket" "[I"] ++ wsX60)
def wsX6_mayStand : List Cond := .code yX6_mayStand cX6_mayStand 8 (some .boolean) :: ([.fieldLink RX6 19 "FerryTerminalModel" "half" "[Z", .fieldLink RX6 74 "FerryTerminalModel" "tickets" "I", .methodLink RX6 130 yX6_isAboard, .instanceMethod yX6_isAboard, .selects RX6 yX6_isAboard yX6_isAboard, .initialized RX6, .code yX6_isAboard cX6_isAboard 3 (some .boolean), .methodLink RX6 115 yX6_of, .instanceMethod yX6_of, .selects RX6 yX6_of yX6_of, .code yX6_of cX6_of 3 (some .int), .fieldLink RX6 56 "FerryTerminalModel" "ticket" "[I"] ++ wsX60)
def wsX6_boards_r1 : List Cond := [Cond.fieldLink RX6 29 "FerryTerminalModel" "ship" "[I", Cond.fieldLink RX6 7 "FerryTerminalModel" "decks" "[I", Cond.fieldLink RX6 13 "FerryTerminalModel" "lanes" "[I", Cond.fieldLink RX6 140 "FerryTerminalModel" "firstGap" "I", Cond.fieldLink RX6 134 "FerryTerminalModel" "free" "I", Cond.fieldLink RX6 59 "FerryTerminalModel" "boarded" "[I", Cond.fieldLink RX6 154 "FerryTerminalModel" "boardings" "I", Cond.methodLink RX6 115 yX6_of, Cond.instanceMethod yX6_of, Cond.selects RX6 yX6_of yX6_of, Cond.initialized RX6, Cond.code yX6_of cX6_of 3 (some .int), Cond.fieldLink RX6 56 "FerryTerminalModel" "ticket" "[I", Cond.methodLink RX6 146 yX6_mayStand, Cond.instanceMethod yX6_mayStand, Cond.selects RX6 yX6_mayStand yX6_mayStand, Cond.code yX6_mayStand cX6_mayStand 8 (some .boolean), Cond.fieldLink RX6 19 "FerryTerminalModel" "half" "[Z", Cond.fieldLink RX6 74 "FerryTerminalModel" "tickets" "I", Cond.methodLink RX6 130 yX6_isAboard, Cond.instanceMethod yX6_isAboard, Cond.selects RX6 yX6_isAboard yX6_isAboard, Cond.code yX6_isAboard cX6_isAboard 3 (some .boolean), Cond.methodLink RX6 150 yX6_measure]
def wsX6_boards_r2 : List Cond := [Cond.instanceMethod yX6_measure, Cond.selects RX6 yX6_measure yX6_measure, Cond.code yX6_measure cX6_measure 10 none, Cond.fieldLink RX6 16 "FerryTerminalModel" "lengths" "[I", Cond.fieldLink RX6 71 "FerryTerminalModel" "covered" "[Z", Cond.fieldLink RX6 137 "FerryTerminalModel" "longest" "I", Cond.methodLink RX6 143 Lib.Math.max.name, Cond.static Lib.Math.max.name, Cond.initialized "java/lang/Math", Cond.code Lib.Math.max.name Lib.Math.max.code 2 (some .int), Cond.methodLink RX6 108 yX6_put, Cond.instanceMethod yX6_put, Cond.selects RX6 yX6_put yX6_put, Cond.code yX6_put cX6_put 4 none]
def wsX6_boards : List Cond := .code yX6_boards cX6_boards 10 (some .boolean) :: ((wsX6_boards_r1 ++ wsX6_boards_r2) ++ wsX60)
def wsX6_comesOff : List Cond := .code yX6_comesOff cX6_comesOff 2 none :: ([.methodLink RX6 108 yX6_put, .instanceMethod yX6_put, .selects RX6 yX6_put yX6_put, .initialized RX6, .code yX6_put cX6_put 4 none, .fieldLink RX6 56 "FerryTerminalModel" "ticket" "[I"] ++ wsX60)
def wsX6_cabinFor : List Cond := .code yX6_cabinFor cX6_cabinFor 6 (some .int) :: ([.fieldLink RX6 92 "FerryTerminalModel" "cabins" "I", .fieldLink RX6 23 "FerryTerminalModel" "cabinShip" "[I", .fieldLink RX6 29 "FerryTerminalModel" "ship" "[I", .fieldLink RX6 26 "FerryTerminalModel" "beds" "[I", .fieldLink RX6 74 "FerryTerminalModel" "tickets" "I", .methodLink RX6 115 yX6_of, .instanceMethod yX6_of, .selects RX6 yX6_of yX6_of, .initialized RX6, .code yX6_of cX6_of 3 (some .int), .fieldLink RX6 56 "FerryTerminalModel" "ticket" "[I", .methodLink RX6 130 yX6_isAboard, .instanceMethod yX6_isAboard, .selects RX6 yX6_isAboard yX6_isAboard, .code yX6_isAboard cX6_isAboard 3 (some .boolean)] ++ wsX60)
def wsX6_write : List Cond := .code yX6_write cX6_write 4 none :: ([.fieldLink RX6 172 "FerryTerminalModel" "turns" "I", .fieldLink RX6 62 "FerryTerminalModel" "logKind" "[I", .fieldLink RX6 65 "FerryTerminalModel" "logTicket" "[I", .fieldLink RX6 68 "FerryTerminalModel" "logSailing" "[I", .fieldLink RX6 41 "FerryTerminalModel" "done" "[I"] ++ wsX60)
def wsX6_goesOn_r1 : List Cond := [Cond.fieldLink RX6 50 "FerryTerminalModel" "stage" "[I", Cond.fieldLink RX6 47 "FerryTerminalModel" "begun" "[I", Cond.methodLink RX6 175 yX6_write, Cond.instanceMethod yX6_write, Cond.selects RX6 yX6_write yX6_write, Cond.initialized RX6, Cond.code yX6_write cX6_write 4 none, Cond.fieldLink RX6 172 "FerryTerminalModel" "turns" "I", Cond.fieldLink RX6 62 "FerryTerminalModel" "logKind" "[I", Cond.fieldLink RX6 65 "FerryTerminalModel" "logTicket" "[I", Cond.fieldLink RX6 68 "FerryTerminalModel" "logSailing" "[I", Cond.fieldLink RX6 41 "FerryTerminalModel" "done" "[I", Cond.methodLink RX6 191 yX6_cabinFor, Cond.instanceMethod yX6_cabinFor, Cond.selects RX6 yX6_cabinFor yX6_cabinFor, Cond.code yX6_cabinFor cX6_cabinFor 6 (some .int), Cond.fieldLink RX6 92 "FerryTerminalModel" "cabins" "I", Cond.fieldLink RX6 23 "FerryTerminalModel" "cabinShip" "[I", Cond.fieldLink RX6 29 "FerryTerminalModel" "ship" "[I", Cond.fieldLink RX6 26 "FerryTerminalModel" "beds" "[I", Cond.fieldLink RX6 74 "FerryTerminalModel" "tickets" "I", Cond.methodLink RX6 115 yX6_of, Cond.instanceMethod yX6_of, Cond.selects RX6 yX6_of yX6_of]
def wsX6_goesOn_r2 : List Cond := [Cond.code yX6_of cX6_of 3 (some .int), Cond.fieldLink RX6 56 "FerryTerminalModel" "ticket" "[I", Cond.methodLink RX6 130 yX6_isAboard, Cond.instanceMethod yX6_isAboard, Cond.selects RX6 yX6_isAboard yX6_isAboard, Cond.code yX6_isAboard cX6_isAboard 3 (some .boolean), Cond.methodLink RX6 108 yX6_put, Cond.instanceMethod yX6_put, Cond.selects RX6 yX6_put yX6_put, Cond.code yX6_put cX6_put 4 none]
def wsX6_goesOn : List Cond := .code yX6_goesOn cX6_goesOn 4 none :: ((wsX6_goesOn_r1 ++ wsX6_goesOn_r2) ++ wsX60)
def wsX6_goesAway_r1 : List Cond := [Cond.fieldLink RX6 78 "FerryTerminalModel" "sailings" "I", Cond.fieldLink RX6 35 "FerryTerminalModel" "line" "[I", Cond.fieldLink RX6 32 "FerryTerminalModel" "minute" "[I", Cond.fieldLink RX6 44 "FerryTerminalModel" "recall" "[I", Cond.fieldLink RX6 16 "FerryTerminalModel" "lengths" "[I", Cond.fieldLink RX6 29 "FerryTerminalModel" "ship" "[I", Cond.methodLink RX6 105 yX6_isToGo, Cond.instanceMethod yX6_isToGo, Cond.selects RX6 yX6_isToGo yX6_isToGo, Cond.initialized RX6, Cond.code yX6_isToGo cX6_isToGo 2 (some .boolean), Cond.fieldLink RX6 38 "FerryTerminalModel" "how" "[I", Cond.methodLink RX6 115 yX6_of, Cond.instanceMethod yX6_of, Cond.selects RX6 yX6_of yX6_of, Cond.code yX6_of cX6_of 3 (some .int), Cond.fieldLink RX6 56 "FerryTerminalModel" "ticket" "[I", Cond.methodLink RX6 108 yX6_put, Cond.instanceMethod yX6_put, Cond.selects RX6 yX6_put yX6_put, Cond.code yX6_put cX6_put 4 none, Cond.methodLink RX6 175 yX6_write, Cond.instanceMethod yX6_write, Cond.selects RX6 yX6_write yX6_write]
def wsX6_goesAway_r2 : List Cond := [Cond.code yX6_write cX6_write 4 none, Cond.fieldLink RX6 172 "FerryTerminalModel" "turns" "I", Cond.fieldLink RX6 62 "FerryTerminalModel" "logKind" "[I", Cond.fieldLink RX6 65 "FerryTerminalModel" "logTicket" "[I", Cond.fieldLink RX6 68 "FerryTerminalModel" "logSailing" "[I", Cond.fieldLink RX6 41 "FerryTerminalModel" "done" "[I"]
def wsX6_goesAway : List Cond := .code yX6_goesAway cX6_goesAway 5 none :: ((wsX6_goesAway_r1 ++ wsX6_goesAway_r2) ++ wsX60)
def wsX6_turn_r1 : List Cond := [Cond.fieldLink RX6 157 "FerryTerminalModel" "about" "I", Cond.fieldLink RX6 47 "FerryTerminalModel" "begun" "[I", Cond.fieldLink RX6 50 "FerryTerminalModel" "stage" "[I", Cond.fieldLink RX6 44 "FerryTerminalModel" "recall" "[I", Cond.methodLink RX6 166 yX6_nextTurn, Cond.instanceMethod yX6_nextTurn, Cond.selects RX6 yX6_nextTurn yX6_nextTurn, Cond.initialized RX6, Cond.code yX6_nextTurn cX6_nextTurn 3 (some .int), Cond.fieldLink RX6 38 "FerryTerminalModel" "how" "[I", Cond.fieldLink RX6 53 "FerryTerminalModel" "isOff" "[Z", Cond.fieldLink RX6 74 "FerryTerminalModel" "tickets" "I", Cond.methodLink RX6 160 yX6_recallTurn, Cond.instanceMethod yX6_recallTurn, Cond.selects RX6 yX6_recallTurn yX6_recallTurn, Cond.code yX6_recallTurn cX6_recallTurn 4 (some .int), Cond.fieldLink RX6 59 "FerryTerminalModel" "boarded" "[I", Cond.methodLink RX6 130 yX6_isAboard, Cond.instanceMethod yX6_isAboard, Cond.selects RX6 yX6_isAboard yX6_isAboard, Cond.code yX6_isAboard cX6_isAboard 3 (some .boolean), Cond.methodLink RX6 115 yX6_of, Cond.instanceMethod yX6_of, Cond.selects RX6 yX6_of yX6_of]
def wsX6_turn_r2 : List Cond := [Cond.code yX6_of cX6_of 3 (some .int), Cond.fieldLink RX6 56 "FerryTerminalModel" "ticket" "[I", Cond.methodLink RX6 163 yX6_isAhead, Cond.instanceMethod yX6_isAhead, Cond.selects RX6 yX6_isAhead yX6_isAhead, Cond.code yX6_isAhead cX6_isAhead 4 (some .boolean), Cond.methodLink RX6 169 yX6_isLate, Cond.instanceMethod yX6_isLate, Cond.selects RX6 yX6_isLate yX6_isLate, Cond.code yX6_isLate cX6_isLate 3 (some .boolean), Cond.fieldLink RX6 32 "FerryTerminalModel" "minute" "[I", Cond.methodLink RX6 108 yX6_put, Cond.instanceMethod yX6_put, Cond.selects RX6 yX6_put yX6_put, Cond.code yX6_put cX6_put 4 none, Cond.methodLink RX6 175 yX6_write, Cond.instanceMethod yX6_write, Cond.selects RX6 yX6_write yX6_write, Cond.code yX6_write cX6_write 4 none, Cond.fieldLink RX6 172 "FerryTerminalModel" "turns" "I", Cond.fieldLink RX6 62 "FerryTerminalModel" "logKind" "[I", Cond.fieldLink RX6 65 "FerryTerminalModel" "logTicket" "[I", Cond.fieldLink RX6 68 "FerryTerminalModel" "logSailing" "[I", Cond.fieldLink RX6 41 "FerryTerminalModel" "done" "[I"]
def wsX6_turn_r3 : List Cond := [Cond.methodLink RX6 178 yX6_goesOn, Cond.instanceMethod yX6_goesOn, Cond.selects RX6 yX6_goesOn yX6_goesOn, Cond.code yX6_goesOn cX6_goesOn 4 none, Cond.methodLink RX6 191 yX6_cabinFor, Cond.instanceMethod yX6_cabinFor, Cond.selects RX6 yX6_cabinFor yX6_cabinFor, Cond.code yX6_cabinFor cX6_cabinFor 6 (some .int), Cond.fieldLink RX6 92 "FerryTerminalModel" "cabins" "I", Cond.fieldLink RX6 23 "FerryTerminalModel" "cabinShip" "[I", Cond.fieldLink RX6 29 "FerryTerminalModel" "ship" "[I", Cond.fieldLink RX6 26 "FerryTerminalModel" "beds" "[I", Cond.methodLink RX6 182 yX6_boards, Cond.instanceMethod yX6_boards, Cond.selects RX6 yX6_boards yX6_boards, Cond.code yX6_boards cX6_boards 10 (some .boolean), Cond.fieldLink RX6 7 "FerryTerminalModel" "decks" "[I", Cond.fieldLink RX6 13 "FerryTerminalModel" "lanes" "[I", Cond.fieldLink RX6 140 "FerryTerminalModel" "firstGap" "I", Cond.fieldLink RX6 134 "FerryTerminalModel" "free" "I", Cond.fieldLink RX6 154 "FerryTerminalModel" "boardings" "I", Cond.methodLink RX6 146 yX6_mayStand, Cond.instanceMethod yX6_mayStand, Cond.selects RX6 yX6_mayStand yX6_mayStand]
def wsX6_turn_r4 : List Cond := [Cond.code yX6_mayStand cX6_mayStand 8 (some .boolean), Cond.fieldLink RX6 19 "FerryTerminalModel" "half" "[Z", Cond.methodLink RX6 150 yX6_measure, Cond.instanceMethod yX6_measure, Cond.selects RX6 yX6_measure yX6_measure, Cond.code yX6_measure cX6_measure 10 none, Cond.fieldLink RX6 16 "FerryTerminalModel" "lengths" "[I", Cond.fieldLink RX6 71 "FerryTerminalModel" "covered" "[Z", Cond.fieldLink RX6 137 "FerryTerminalModel" "longest" "I", Cond.methodLink RX6 143 Lib.Math.max.name, Cond.static Lib.Math.max.name, Cond.initialized "java/lang/Math", Cond.code Lib.Math.max.name Lib.Math.max.code 2 (some .int), Cond.methodLink RX6 185 yX6_comesOff, Cond.instanceMethod yX6_comesOff, Cond.selects RX6 yX6_comesOff yX6_comesOff, Cond.code yX6_comesOff cX6_comesOff 2 none, Cond.methodLink RX6 188 yX6_goesAway, Cond.instanceMethod yX6_goesAway, Cond.selects RX6 yX6_goesAway yX6_goesAway, Cond.code yX6_goesAway cX6_goesAway 5 none, Cond.fieldLink RX6 78 "FerryTerminalModel" "sailings" "I", Cond.fieldLink RX6 35 "FerryTerminalModel" "line" "[I", Cond.methodLink RX6 105 yX6_isToGo]
def wsX6_turn_r5 : List Cond := [Cond.instanceMethod yX6_isToGo, Cond.selects RX6 yX6_isToGo yX6_isToGo, Cond.code yX6_isToGo cX6_isToGo 2 (some .boolean), Cond.methodLink RX6 123 yX6_lookAtRecall, Cond.instanceMethod yX6_lookAtRecall, Cond.selects RX6 yX6_lookAtRecall yX6_lookAtRecall, Cond.code yX6_lookAtRecall cX6_lookAtRecall 2 none, Cond.methodLink RX6 127 yX6_hasTurn, Cond.instanceMethod yX6_hasTurn, Cond.selects RX6 yX6_hasTurn yX6_hasTurn, Cond.code yX6_hasTurn cX6_hasTurn 2 (some .boolean)]
def wsX6_turn : List Cond := .code yX6_turn cX6_turn 4 (some .boolean) :: ((wsX6_turn_r1 ++ (wsX6_turn_r2 ++ (wsX6_turn_r3 ++ (wsX6_turn_r4 ++ wsX6_turn_r5)))) ++ wsX60)
def wsX6_settle_r1 : List Cond := [Cond.fieldLink RX6 78 "FerryTerminalModel" "sailings" "I", Cond.methodLink RX6 84 yX6_isIn, Cond.static yX6_isIn, Cond.initialized RX6, Cond.code yX6_isIn cX6_isIn 3 (some .boolean), Cond.methodLink RX6 194 yX6_turn, Cond.instanceMethod yX6_turn, Cond.selects RX6 yX6_turn yX6_turn, Cond.code yX6_turn cX6_turn 4 (some .boolean), Cond.fieldLink RX6 157 "FerryTerminalModel" "about" "I", Cond.fieldLink RX6 47 "FerryTerminalModel" "begun" "[I", Cond.fieldLink RX6 50 "FerryTerminalModel" "stage" "[I", Cond.fieldLink RX6 44 "FerryTerminalModel" "recall" "[I", Cond.methodLink RX6 166 yX6_nextTurn, Cond.instanceMethod yX6_nextTurn, Cond.selects RX6 yX6_nextTurn yX6_nextTurn, Cond.code yX6_nextTurn cX6_nextTurn 3 (some .int), Cond.fieldLink RX6 38 "FerryTerminalModel" "how" "[I", Cond.fieldLink RX6 53 "FerryTerminalModel" "isOff" "[Z", Cond.fieldLink RX6 74 "FerryTerminalModel" "tickets" "I", Cond.methodLink RX6 160 yX6_recallTurn, Cond.instanceMethod yX6_recallTurn, Cond.selects RX6 yX6_recallTurn yX6_recallTurn, Cond.code yX6_recallTurn cX6_recallTurn 4 (some .int)]
def wsX6_settle_r2 : List Cond := [Cond.fieldLink RX6 59 "FerryTerminalModel" "boarded" "[I", Cond.methodLink RX6 130 yX6_isAboard, Cond.instanceMethod yX6_isAboard, Cond.selects RX6 yX6_isAboard yX6_isAboard, Cond.code yX6_isAboard cX6_isAboard 3 (some .boolean), Cond.methodLink RX6 115 yX6_of, Cond.instanceMethod yX6_of, Cond.selects RX6 yX6_of yX6_of, Cond.code yX6_of cX6_of 3 (some .int), Cond.fieldLink RX6 56 "FerryTerminalModel" "ticket" "[I", Cond.methodLink RX6 163 yX6_isAhead, Cond.instanceMethod yX6_isAhead, Cond.selects RX6 yX6_isAhead yX6_isAhead, Cond.code yX6_isAhead cX6_isAhead 4 (some .boolean), Cond.methodLink RX6 169 yX6_isLate, Cond.instanceMethod yX6_isLate, Cond.selects RX6 yX6_isLate yX6_isLate, Cond.code yX6_isLate cX6_isLate 3 (some .boolean), Cond.fieldLink RX6 32 "FerryTerminalModel" "minute" "[I", Cond.methodLink RX6 108 yX6_put, Cond.instanceMethod yX6_put, Cond.selects RX6 yX6_put yX6_put, Cond.code yX6_put cX6_put 4 none, Cond.methodLink RX6 175 yX6_write]
def wsX6_settle_r3 : List Cond := [Cond.instanceMethod yX6_write, Cond.selects RX6 yX6_write yX6_write, Cond.code yX6_write cX6_write 4 none, Cond.fieldLink RX6 172 "FerryTerminalModel" "turns" "I", Cond.fieldLink RX6 62 "FerryTerminalModel" "logKind" "[I", Cond.fieldLink RX6 65 "FerryTerminalModel" "logTicket" "[I", Cond.fieldLink RX6 68 "FerryTerminalModel" "logSailing" "[I", Cond.fieldLink RX6 41 "FerryTerminalModel" "done" "[I", Cond.methodLink RX6 178 yX6_goesOn, Cond.instanceMethod yX6_goesOn, Cond.selects RX6 yX6_goesOn yX6_goesOn, Cond.code yX6_goesOn cX6_goesOn 4 none, Cond.methodLink RX6 191 yX6_cabinFor, Cond.instanceMethod yX6_cabinFor, Cond.selects RX6 yX6_cabinFor yX6_cabinFor, Cond.code yX6_cabinFor cX6_cabinFor 6 (some .int), Cond.fieldLink RX6 92 "FerryTerminalModel" "cabins" "I", Cond.fieldLink RX6 23 "FerryTerminalModel" "cabinShip" "[I", Cond.fieldLink RX6 29 "FerryTerminalModel" "ship" "[I", Cond.fieldLink RX6 26 "FerryTerminalModel" "beds" "[I", Cond.methodLink RX6 182 yX6_boards, Cond.instanceMethod yX6_boards, Cond.selects RX6 yX6_boards yX6_boards, Cond.code yX6_boards cX6_boards 10 (some .boolean)]
def wsX6_settle_r4 : List Cond := [Cond.fieldLink RX6 7 "FerryTerminalModel" "decks" "[I", Cond.fieldLink RX6 13 "FerryTerminalModel" "lanes" "[I", Cond.fieldLink RX6 140 "FerryTerminalModel" "firstGap" "I", Cond.fieldLink RX6 134 "FerryTerminalModel" "free" "I", Cond.fieldLink RX6 154 "FerryTerminalModel" "boardings" "I", Cond.methodLink RX6 146 yX6_mayStand, Cond.instanceMethod yX6_mayStand, Cond.selects RX6 yX6_mayStand yX6_mayStand, Cond.code yX6_mayStand cX6_mayStand 8 (some .boolean), Cond.fieldLink RX6 19 "FerryTerminalModel" "half" "[Z", Cond.methodLink RX6 150 yX6_measure, Cond.instanceMethod yX6_measure, Cond.selects RX6 yX6_measure yX6_measure, Cond.code yX6_measure cX6_measure 10 none, Cond.fieldLink RX6 16 "FerryTerminalModel" "lengths" "[I", Cond.fieldLink RX6 71 "FerryTerminalModel" "covered" "[Z", Cond.fieldLink RX6 137 "FerryTerminalModel" "longest" "I", Cond.methodLink RX6 143 Lib.Math.max.name, Cond.static Lib.Math.max.name, Cond.initialized "java/lang/Math", Cond.code Lib.Math.max.name Lib.Math.max.code 2 (some .int), Cond.methodLink RX6 185 yX6_comesOff, Cond.instanceMethod yX6_comesOff, Cond.selects RX6 yX6_comesOff yX6_comesOff]
def wsX6_settle_r5 : List Cond := [Cond.code yX6_comesOff cX6_comesOff 2 none, Cond.methodLink RX6 188 yX6_goesAway, Cond.instanceMethod yX6_goesAway, Cond.selects RX6 yX6_goesAway yX6_goesAway, Cond.code yX6_goesAway cX6_goesAway 5 none, Cond.fieldLink RX6 35 "FerryTerminalModel" "line" "[I", Cond.methodLink RX6 105 yX6_isToGo, Cond.instanceMethod yX6_isToGo, Cond.selects RX6 yX6_isToGo yX6_isToGo, Cond.code yX6_isToGo cX6_isToGo 2 (some .boolean), Cond.methodLink RX6 123 yX6_lookAtRecall, Cond.instanceMethod yX6_lookAtRecall, Cond.selects RX6 yX6_lookAtRecall yX6_lookAtRecall, Cond.code yX6_lookAtRecall cX6_lookAtRecall 2 none, Cond.methodLink RX6 127 yX6_hasTurn, Cond.instanceMethod yX6_hasTurn, Cond.selects RX6 yX6_hasTurn yX6_hasTurn, Cond.code yX6_hasTurn cX6_hasTurn 2 (some .boolean)]
def wsX6_settle : List Cond := .code yX6_settle cX6_settle 5 (some .int) :: ((wsX6_settle_r1 ++ (wsX6_settle_r2 ++ (wsX6_settle_r3 ++ (wsX6_settle_r4 ++ wsX6_settle_r5)))) ++ wsX60)
def wsX6_depart_r1 : List Cond := [Cond.fieldLink RX6 38 "FerryTerminalModel" "how" "[I", Cond.fieldLink RX6 44 "FerryTerminalModel" "recall" "[I", Cond.fieldLink RX6 74 "FerryTerminalModel" "tickets" "I", Cond.methodLink RX6 102 yX6_isSailing, Cond.instanceMethod yX6_isSailing, Cond.selects RX6 yX6_isSailing yX6_isSailing, Cond.initialized RX6, Cond.code yX6_isSailing cX6_isSailing 2 (some .boolean), Cond.fieldLink RX6 78 "FerryTerminalModel" "sailings" "I", Cond.methodLink RX6 127 yX6_hasTurn, Cond.instanceMethod yX6_hasTurn, Cond.selects RX6 yX6_hasTurn yX6_hasTurn, Cond.code yX6_hasTurn cX6_hasTurn 2 (some .boolean), Cond.methodLink RX6 166 yX6_nextTurn, Cond.instanceMethod yX6_nextTurn, Cond.selects RX6 yX6_nextTurn yX6_nextTurn, Cond.code yX6_nextTurn cX6_nextTurn 3 (some .int), Cond.fieldLink RX6 157 "FerryTerminalModel" "about" "I", Cond.fieldLink RX6 53 "FerryTerminalModel" "isOff" "[Z", Cond.fieldLink RX6 47 "FerryTerminalModel" "begun" "[I", Cond.methodLink RX6 160 yX6_recallTurn, Cond.instanceMethod yX6_recallTurn, Cond.selects RX6 yX6_recallTurn yX6_recallTurn, Cond.code yX6_recallTurn cX6_recallTurn 4 (some .int)]
def wsX6_depart_r2 : List Cond := [Cond.fieldLink RX6 59 "FerryTerminalModel" "boarded" "[I", Cond.methodLink RX6 130 yX6_isAboard, Cond.instanceMethod yX6_isAboard, Cond.selects RX6 yX6_isAboard yX6_isAboard, Cond.code yX6_isAboard cX6_isAboard 3 (some .boolean), Cond.methodLink RX6 115 yX6_of, Cond.instanceMethod yX6_of, Cond.selects RX6 yX6_of yX6_of, Cond.code yX6_of cX6_of 3 (some .int), Cond.fieldLink RX6 56 "FerryTerminalModel" "ticket" "[I", Cond.methodLink RX6 163 yX6_isAhead, Cond.instanceMethod yX6_isAhead, Cond.selects RX6 yX6_isAhead yX6_isAhead, Cond.code yX6_isAhead cX6_isAhead 4 (some .boolean), Cond.methodLink RX6 169 yX6_isLate, Cond.instanceMethod yX6_isLate, Cond.selects RX6 yX6_isLate yX6_isLate, Cond.code yX6_isLate cX6_isLate 3 (some .boolean), Cond.fieldLink RX6 32 "FerryTerminalModel" "minute" "[I", Cond.methodLink RX6 185 yX6_comesOff, Cond.instanceMethod yX6_comesOff, Cond.selects RX6 yX6_comesOff yX6_comesOff, Cond.code yX6_comesOff cX6_comesOff 2 none, Cond.methodLink RX6 108 yX6_put]
def wsX6_depart_r3 : List Cond := [Cond.instanceMethod yX6_put, Cond.selects RX6 yX6_put yX6_put, Cond.code yX6_put cX6_put 4 none]
def wsX6_depart : List Cond := .code yX6_depart cX6_depart 5 (some .int) :: ((wsX6_depart_r1 ++ (wsX6_depart_r2 ++ wsX6_depart_r3)) ++ wsX60)
def wsX6_off_r1 : List Cond := [Cond.fieldLink RX6 38 "FerryTerminalModel" "how" "[I", Cond.fieldLink RX6 44 "FerryTerminalModel" "recall" "[I", Cond.fieldLink RX6 47 "FerryTerminalModel" "begun" "[I", Cond.fieldLink RX6 74 "FerryTerminalModel" "tickets" "I", Cond.methodLink RX6 112 yX6_isTicket, Cond.instanceMethod yX6_isTicket, Cond.selects RX6 yX6_isTicket yX6_isTicket, Cond.initialized RX6, Cond.code yX6_isTicket cX6_isTicket 2 (some .boolean), Cond.methodLink RX6 115 yX6_of, Cond.instanceMethod yX6_of, Cond.selects RX6 yX6_of yX6_of, Cond.code yX6_of cX6_of 3 (some .int), Cond.fieldLink RX6 56 "FerryTerminalModel" "ticket" "[I", Cond.methodLink RX6 130 yX6_isAboard, Cond.instanceMethod yX6_isAboard, Cond.selects RX6 yX6_isAboard yX6_isAboard, Cond.code yX6_isAboard cX6_isAboard 3 (some .boolean), Cond.methodLink RX6 185 yX6_comesOff, Cond.instanceMethod yX6_comesOff, Cond.selects RX6 yX6_comesOff yX6_comesOff, Cond.code yX6_comesOff cX6_comesOff 2 none, Cond.methodLink RX6 108 yX6_put, Cond.instanceMethod yX6_put]
def wsX6_off_r2 : List Cond := [Cond.selects RX6 yX6_put yX6_put, Cond.code yX6_put cX6_put 4 none]
def wsX6_off : List Cond := .code yX6_off cX6_off 4 (some .boolean) :: ((wsX6_off_r1 ++ wsX6_off_r2) ++ wsX60)
def wsX6_shipOf_r1 : List Cond := [Cond.fieldLink RX6 7 "FerryTerminalModel" "decks" "[I", Cond.fieldLink RX6 13 "FerryTerminalModel" "lanes" "[I", Cond.fieldLink RX6 16 "FerryTerminalModel" "lengths" "[I", Cond.fieldLink RX6 19 "FerryTerminalModel" "half" "[Z", Cond.fieldLink RX6 92 "FerryTerminalModel" "cabins" "I", Cond.fieldLink RX6 23 "FerryTerminalModel" "cabinShip" "[I", Cond.fieldLink RX6 74 "FerryTerminalModel" "tickets" "I", Cond.methodLink RX6 88 yX6_isShip, Cond.instanceMethod yX6_isShip, Cond.selects RX6 yX6_isShip yX6_isShip, Cond.initialized RX6, Cond.code yX6_isShip cX6_isShip 2 (some .boolean), Cond.fieldLink RX6 81 "FerryTerminalModel" "ships" "I", Cond.methodLink RX6 120 yX6_openOf, Cond.instanceMethod yX6_openOf, Cond.selects RX6 yX6_openOf yX6_openOf, Cond.code yX6_openOf cX6_openOf 3 (some .int), Cond.fieldLink RX6 78 "FerryTerminalModel" "sailings" "I", Cond.fieldLink RX6 29 "FerryTerminalModel" "ship" "[I", Cond.fieldLink RX6 38 "FerryTerminalModel" "how" "[I", Cond.methodLink RX6 130 yX6_isAboard, Cond.instanceMethod yX6_isAboard, Cond.selects RX6 yX6_isAboard yX6_isAboard, Cond.code yX6_isAboard cX6_isAboard 3 (some .boolean)]
def wsX6_shipOf_r2 : List Cond := [Cond.methodLink RX6 115 yX6_of, Cond.instanceMethod yX6_of, Cond.selects RX6 yX6_of yX6_of, Cond.code yX6_of cX6_of 3 (some .int), Cond.fieldLink RX6 56 "FerryTerminalModel" "ticket" "[I"]
def wsX6_shipOf : List Cond := .code yX6_shipOf cX6_shipOf 6 (some .int) :: ((wsX6_shipOf_r1 ++ wsX6_shipOf_r2) ++ wsX60)
def wsX6_sailingOf : List Cond := .code yX6_sailingOf cX6_sailingOf 5 (some .int) :: ([.fieldLink RX6 29 "FerryTerminalModel" "ship" "[I", .fieldLink RX6 32 "FerryTerminalModel" "minute" "[I", .fieldLink RX6 35 "FerryTerminalModel" "line" "[I", .fieldLink RX6 38 "FerryTerminalModel" "how" "[I", .fieldLink RX6 41 "FerryTerminalModel" "done" "[I", .fieldLink RX6 44 "FerryTerminalModel" "recall" "[I", .fieldLink RX6 74 "FerryTerminalModel" "tickets" "I", .methodLink RX6 102 yX6_isSailing, .instanceMethod yX6_isSailing, .selects RX6 yX6_isSailing yX6_isSailing, .initialized RX6, .code yX6_isSailing cX6_isSailing 2 (some .boolean), .fieldLink RX6 78 "FerryTerminalModel" "sailings" "I", .methodLink RX6 115 yX6_of, .instanceMethod yX6_of, .selects RX6 yX6_of yX6_of, .code yX6_of cX6_of 3 (some .int), .fieldLink RX6 56 "FerryTerminalModel" "ticket" "[I"] ++ wsX60)
def wsX6_ticketOf : List Cond := .code yX6_ticketOf cX6_ticketOf 3 (some .int) :: ([.methodLink RX6 112 yX6_isTicket, .instanceMethod yX6_isTicket, .selects RX6 yX6_isTicket yX6_isTicket, .initialized RX6, .code yX6_isTicket cX6_isTicket 2 (some .boolean), .fieldLink RX6 74 "FerryTerminalModel" "tickets" "I", .methodLink RX6 84 yX6_isIn, .static yX6_isIn, .code yX6_isIn cX6_isIn 3 (some .boolean), .methodLink RX6 115 yX6_of, .instanceMethod yX6_of, .selects RX6 yX6_of yX6_of, .code yX6_of cX6_of 3 (some .int), .fieldLink RX6 56 "FerryTerminalModel" "ticket" "[I"] ++ wsX60)
def wsX6_isLane : List Cond := .code yX6_isLane cX6_isLane 4 (some .boolean) :: ([.fieldLink RX6 7 "FerryTerminalModel" "decks" "[I", .fieldLink RX6 13 "FerryTerminalModel" "lanes" "[I", .methodLink RX6 88 yX6_isShip, .instanceMethod yX6_isShip, .selects RX6 yX6_isShip yX6_isShip, .initialized RX6, .code yX6_isShip cX6_isShip 2 (some .boolean), .fieldLink RX6 81 "FerryTerminalModel" "ships" "I", .methodLink RX6 84 yX6_isIn, .static yX6_isIn, .code yX6_isIn cX6_isIn 3 (some .boolean)] ++ wsX60)
def wsX6_at_r1 : List Cond := [Cond.fieldLink RX6 16 "FerryTerminalModel" "lengths" "[I", Cond.methodLink RX6 197 yX6_isLane, Cond.instanceMethod yX6_isLane, Cond.selects RX6 yX6_isLane yX6_isLane, Cond.initialized RX6, Cond.code yX6_isLane cX6_isLane 4 (some .boolean), Cond.fieldLink RX6 7 "FerryTerminalModel" "decks" "[I", Cond.fieldLink RX6 13 "FerryTerminalModel" "lanes" "[I", Cond.methodLink RX6 88 yX6_isShip, Cond.instanceMethod yX6_isShip, Cond.selects RX6 yX6_isShip yX6_isShip, Cond.code yX6_isShip cX6_isShip 2 (some .boolean), Cond.fieldLink RX6 81 "FerryTerminalModel" "ships" "I", Cond.methodLink RX6 84 yX6_isIn, Cond.static yX6_isIn, Cond.code yX6_isIn cX6_isIn 3 (some .boolean), Cond.methodLink RX6 120 yX6_openOf, Cond.instanceMethod yX6_openOf, Cond.selects RX6 yX6_openOf yX6_openOf, Cond.code yX6_openOf cX6_openOf 3 (some .int), Cond.fieldLink RX6 78 "FerryTerminalModel" "sailings" "I", Cond.fieldLink RX6 29 "FerryTerminalModel" "ship" "[I", Cond.fieldLink RX6 38 "FerryTerminalModel" "how" "[I", Cond.methodLink RX6 200 yX6_covers]
def wsX6_at_r2 : List Cond := [Cond.instanceMethod yX6_covers, Cond.selects RX6 yX6_covers yX6_covers, Cond.code yX6_covers cX6_covers 6 (some .int), Cond.fieldLink RX6 74 "FerryTerminalModel" "tickets" "I", Cond.methodLink RX6 130 yX6_isAboard, Cond.instanceMethod yX6_isAboard, Cond.selects RX6 yX6_isAboard yX6_isAboard, Cond.code yX6_isAboard cX6_isAboard 3 (some .boolean), Cond.methodLink RX6 115 yX6_of, Cond.instanceMethod yX6_of, Cond.selects RX6 yX6_of yX6_of, Cond.code yX6_of cX6_of 3 (some .int), Cond.fieldLink RX6 56 "FerryTerminalModel" "ticket" "[I"]
def wsX6_at : List Cond := .code yX6_at cX6_at 5 (some .int) :: ((wsX6_at_r1 ++ wsX6_at_r2) ++ wsX60)
def wsX6_lane_r1 : List Cond := [Cond.fieldLink RX6 134 "FerryTerminalModel" "free" "I", Cond.fieldLink RX6 137 "FerryTerminalModel" "longest" "I", Cond.methodLink RX6 197 yX6_isLane, Cond.instanceMethod yX6_isLane, Cond.selects RX6 yX6_isLane yX6_isLane, Cond.initialized RX6, Cond.code yX6_isLane cX6_isLane 4 (some .boolean), Cond.fieldLink RX6 7 "FerryTerminalModel" "decks" "[I", Cond.fieldLink RX6 13 "FerryTerminalModel" "lanes" "[I", Cond.methodLink RX6 88 yX6_isShip, Cond.instanceMethod yX6_isShip, Cond.selects RX6 yX6_isShip yX6_isShip, Cond.code yX6_isShip cX6_isShip 2 (some .boolean), Cond.fieldLink RX6 81 "FerryTerminalModel" "ships" "I", Cond.methodLink RX6 84 yX6_isIn, Cond.static yX6_isIn, Cond.code yX6_isIn cX6_isIn 3 (some .boolean), Cond.methodLink RX6 120 yX6_openOf, Cond.instanceMethod yX6_openOf, Cond.selects RX6 yX6_openOf yX6_openOf, Cond.code yX6_openOf cX6_openOf 3 (some .int), Cond.fieldLink RX6 78 "FerryTerminalModel" "sailings" "I", Cond.fieldLink RX6 29 "FerryTerminalModel" "ship" "[I", Cond.fieldLink RX6 38 "FerryTerminalModel" "how" "[I"]
def wsX6_lane_r2 : List Cond := [Cond.methodLink RX6 146 yX6_mayStand, Cond.instanceMethod yX6_mayStand, Cond.selects RX6 yX6_mayStand yX6_mayStand, Cond.code yX6_mayStand cX6_mayStand 8 (some .boolean), Cond.fieldLink RX6 19 "FerryTerminalModel" "half" "[Z", Cond.fieldLink RX6 74 "FerryTerminalModel" "tickets" "I", Cond.methodLink RX6 130 yX6_isAboard, Cond.instanceMethod yX6_isAboard, Cond.selects RX6 yX6_isAboard yX6_isAboard, Cond.code yX6_isAboard cX6_isAboard 3 (some .boolean), Cond.methodLink RX6 115 yX6_of, Cond.instanceMethod yX6_of, Cond.selects RX6 yX6_of yX6_of, Cond.code yX6_of cX6_of 3 (some .int), Cond.fieldLink RX6 56 "FerryTerminalModel" "ticket" "[I", Cond.methodLink RX6 150 yX6_measure, Cond.instanceMethod yX6_measure, Cond.selects RX6 yX6_measure yX6_measure, Cond.code yX6_measure cX6_measure 10 none, Cond.fieldLink RX6 16 "FerryTerminalModel" "lengths" "[I", Cond.fieldLink RX6 71 "FerryTerminalModel" "covered" "[Z", Cond.fieldLink RX6 140 "FerryTerminalModel" "firstGap" "I", Cond.methodLink RX6 143 Lib.Math.max.name, Cond.static Lib.Math.max.name]
def wsX6_lane_r3 : List Cond := [Cond.initialized "java/lang/Math", Cond.code Lib.Math.max.name Lib.Math.max.code 2 (some .int)]
def wsX6_lane : List Cond := .code yX6_lane cX6_lane 6 (some .int) :: ((wsX6_lane_r1 ++ (wsX6_lane_r2 ++ wsX6_lane_r3)) ++ wsX60)
def wsX6_log : List Cond := .code yX6_log cX6_log 3 (some .int) :: ([.fieldLink RX6 172 "FerryTerminalModel" "turns" "I", .fieldLink RX6 62 "FerryTerminalModel" "logKind" "[I", .fieldLink RX6 65 "FerryTerminalModel" "logTicket" "[I", .fieldLink RX6 68 "FerryTerminalModel" "logSailing" "[I"] ++ wsX60)
def wsX6_count : List Cond := .code yX6_count cX6_count 2 (some .int) :: ([.fieldLink RX6 81 "FerryTerminalModel" "ships" "I", .fieldLink RX6 92 "FerryTerminalModel" "cabins" "I", .fieldLink RX6 78 "FerryTerminalModel" "sailings" "I", .fieldLink RX6 74 "FerryTerminalModel" "tickets" "I", .fieldLink RX6 172 "FerryTerminalModel" "turns" "I"] ++ wsX60)
def wsX6_total : List Cond := .code yX6_total cX6_total 5 (some .int) :: ([.fieldLink RX6 74 "FerryTerminalModel" "tickets" "I", .methodLink RX6 102 yX6_isSailing, .instanceMethod yX6_isSailing, .selects RX6 yX6_isSailing yX6_isSailing, .initialized RX6, .code yX6_isSailing cX6_isSailing 2 (some .boolean), .fieldLink RX6 78 "FerryTerminalModel" "sailings" "I", .methodLink RX6 84 yX6_isIn, .static yX6_isIn, .code yX6_isIn cX6_isIn 3 (some .boolean), .methodLink RX6 115 yX6_of, .instanceMethod yX6_of, .selects RX6 yX6_of yX6_of, .code yX6_of cX6_of 3 (some .int), .fieldLink RX6 56 "FerryTerminalModel" "ticket" "[I"] ++ wsX60)
def wsX6_kept : List Cond := .code yX6_kept cX6_kept 4 (some .long) :: ([.fieldLink RX6 74 "FerryTerminalModel" "tickets" "I", .methodLink RX6 115 yX6_of, .instanceMethod yX6_of, .selects RX6 yX6_of yX6_of, .initialized RX6, .code yX6_of cX6_of 3 (some .int), .fieldLink RX6 56 "FerryTerminalModel" "ticket" "[I"] ++ wsX60)
def wsX6_isPlaceRight : List Cond := .code yX6_isPlaceRight cX6_isPlaceRight 8 (some .boolean) :: ([.fieldLink RX6 29 "FerryTerminalModel" "ship" "[I", .fieldLink RX6 7 "FerryTerminalModel" "decks" "[I", .fieldLink RX6 13 "FerryTerminalModel" "lanes" "[I", .fieldLink RX6 16 "FerryTerminalModel" "lengths" "[I", .fieldLink RX6 74 "FerryTerminalModel" "tickets" "I", .methodLink RX6 115 yX6_of, .instanceMethod yX6_of, .selects RX6 yX6_of yX6_of, .initialized RX6, .code yX6_of cX6_of 3 (some .int), .fieldLink RX6 56 "FerryTerminalModel" "ticket" "[I", .methodLink RX6 84 yX6_isIn, .static yX6_isIn, .code yX6_isIn cX6_isIn 3 (some .boolean), .methodLink RX6 130 yX6_isAboard, .instanceMethod yX6_isAboard, .selects RX6 yX6_isAboard yX6_isAboard, .code yX6_isAboard cX6_isAboard 3 (some .boolean)] ++ wsX60)
def wsX6_isCabinRight : List Cond := .code yX6_isCabinRight cX6_isCabinRight 6 (some .boolean) :: ([.fieldLink RX6 92 "FerryTerminalModel" "cabins" "I", .fieldLink RX6 23 "FerryTerminalModel" "cabinShip" "[I", .fieldLink RX6 29 "FerryTerminalModel" "ship" "[I", .fieldLink RX6 26 "FerryTerminalModel" "beds" "[I", .fieldLink RX6 74 "FerryTerminalModel" "tickets" "I", .methodLink RX6 115 yX6_of, .instanceMethod yX6_of, .selects RX6 yX6_of yX6_of, .initialized RX6, .code yX6_of cX6_of 3 (some .int), .fieldLink RX6 56 "FerryTerminalModel" "ticket" "[I", .methodLink RX6 84 yX6_isIn, .static yX6_isIn, .code yX6_isIn cX6_isIn 3 (some .boolean)] ++ wsX60)
def wsX6_agrees_r1 : List Cond := [Cond.constant RX6 119 (200000), Cond.methodLink RX6 115 yX6_of, Cond.instanceMethod yX6_of, Cond.selects RX6 yX6_of yX6_of, Cond.initialized RX6, Cond.code yX6_of cX6_of 3 (some .int), Cond.fieldLink RX6 56 "FerryTerminalModel" "ticket" "[I", Cond.methodLink RX6 84 yX6_isIn, Cond.static yX6_isIn, Cond.code yX6_isIn cX6_isIn 3 (some .boolean), Cond.methodLink RX6 207 yX6_isPlaceRight, Cond.instanceMethod yX6_isPlaceRight, Cond.selects RX6 yX6_isPlaceRight yX6_isPlaceRight, Cond.code yX6_isPlaceRight cX6_isPlaceRight 8 (some .boolean), Cond.fieldLink RX6 29 "FerryTerminalModel" "ship" "[I", Cond.fieldLink RX6 7 "FerryTerminalModel" "decks" "[I", Cond.fieldLink RX6 13 "FerryTerminalModel" "lanes" "[I", Cond.fieldLink RX6 16 "FerryTerminalModel" "lengths" "[I", Cond.fieldLink RX6 74 "FerryTerminalModel" "tickets" "I", Cond.methodLink RX6 130 yX6_isAboard, Cond.instanceMethod yX6_isAboard, Cond.selects RX6 yX6_isAboard yX6_isAboard, Cond.code yX6_isAboard cX6_isAboard 3 (some .boolean), Cond.methodLink RX6 210 yX6_isCabinRight]
def wsX6_agrees_r2 : List Cond := [Cond.instanceMethod yX6_isCabinRight, Cond.selects RX6 yX6_isCabinRight yX6_isCabinRight, Cond.code yX6_isCabinRight cX6_isCabinRight 6 (some .boolean), Cond.fieldLink RX6 92 "FerryTerminalModel" "cabins" "I", Cond.fieldLink RX6 23 "FerryTerminalModel" "cabinShip" "[I", Cond.fieldLink RX6 26 "FerryTerminalModel" "beds" "[I"]
def wsX6_agrees : List Cond := .code yX6_agrees cX6_agrees 6 (some .boolean) :: ((wsX6_agrees_r1 ++ wsX6_agrees_r2) ++ wsX60)
def wsX6_audit_r1 : List Cond := [Cond.fieldLink RX6 74 "FerryTerminalModel" "tickets" "I", Cond.methodLink RX6 84 yX6_isIn, Cond.static yX6_isIn, Cond.initialized RX6, Cond.code yX6_isIn cX6_isIn 3 (some .boolean), Cond.methodLink RX6 112 yX6_isTicket, Cond.instanceMethod yX6_isTicket, Cond.selects RX6 yX6_isTicket yX6_isTicket, Cond.code yX6_isTicket cX6_isTicket 2 (some .boolean), Cond.methodLink RX6 115 yX6_of, Cond.instanceMethod yX6_of, Cond.selects RX6 yX6_of yX6_of, Cond.code yX6_of cX6_of 3 (some .int), Cond.fieldLink RX6 56 "FerryTerminalModel" "ticket" "[I", Cond.methodLink RX6 108 yX6_put, Cond.instanceMethod yX6_put, Cond.selects RX6 yX6_put yX6_put, Cond.code yX6_put cX6_put 4 none, Cond.methodLink RX6 204 yX6_agrees, Cond.instanceMethod yX6_agrees, Cond.selects RX6 yX6_agrees yX6_agrees, Cond.code yX6_agrees cX6_agrees 6 (some .boolean), Cond.constant RX6 119 (200000), Cond.methodLink RX6 207 yX6_isPlaceRight]
def wsX6_audit_r2 : List Cond := [Cond.instanceMethod yX6_isPlaceRight, Cond.selects RX6 yX6_isPlaceRight yX6_isPlaceRight, Cond.code yX6_isPlaceRight cX6_isPlaceRight 8 (some .boolean), Cond.fieldLink RX6 29 "FerryTerminalModel" "ship" "[I", Cond.fieldLink RX6 7 "FerryTerminalModel" "decks" "[I", Cond.fieldLink RX6 13 "FerryTerminalModel" "lanes" "[I", Cond.fieldLink RX6 16 "FerryTerminalModel" "lengths" "[I", Cond.methodLink RX6 130 yX6_isAboard, Cond.instanceMethod yX6_isAboard, Cond.selects RX6 yX6_isAboard yX6_isAboard, Cond.code yX6_isAboard cX6_isAboard 3 (some .boolean), Cond.methodLink RX6 210 yX6_isCabinRight, Cond.instanceMethod yX6_isCabinRight, Cond.selects RX6 yX6_isCabinRight yX6_isCabinRight, Cond.code yX6_isCabinRight cX6_isCabinRight 6 (some .boolean), Cond.fieldLink RX6 92 "FerryTerminalModel" "cabins" "I", Cond.fieldLink RX6 23 "FerryTerminalModel" "cabinShip" "[I", Cond.fieldLink RX6 26 "FerryTerminalModel" "beds" "[I"]
def wsX6_audit : List Cond := .code yX6_audit cX6_audit 6 (some .int) :: ((wsX6_audit_r1 ++ wsX6_audit_r2) ++ wsX60)
def wsJ9_abs_0f7a4 : List Cond := .code yJ9_abs_0f7a4 cJ9_abs_0f7a4 1 (some .int) :: ([])
def wsJ9_max_7cf53 : List Cond := .code yJ9_max_7cf53 cJ9_max_7cf53 2 (some .int) :: ([])
def wsJ9_min_7cf53 : List Cond := .code yJ9_min_7cf53 cJ9_min_7cf53 2 (some .int) :: ([])
def wsL_law_r1 : List Cond := [Cond.classLink RL 7 RX5, Cond.instantiable RX5 12, Cond.initialized RX5, Cond.classLink RL 10 RX6, Cond.instantiable RX6 31, Cond.initialized RX6, Cond.methodLink RL 9 yX5_init, Cond.instanceMethod yX5_init, Cond.code yX5_init cX5_init 1 none, Cond.methodLink RX5 1 objectInit, Cond.instanceMethod objectInit, Cond.code objectInit ⟨#[0xb1]⟩ 1 none, Cond.classLink RX5 9 RX3, Cond.fieldLink RX5 11 "FerryTerminal" "ships" "[LFerryTerminal$Ship;", Cond.classLink RX5 15 RX1, Cond.fieldLink RX5 17 "FerryTerminal" "cabins" "[LFerryTerminal$Cabin;", Cond.classLink RX5 21 RX2, Cond.fieldLink RX5 23 "FerryTerminal" "sailings" "[LFerryTerminal$Sailing;", Cond.classLink RX5 27 RX4, Cond.fieldLink RX5 29 "FerryTerminal" "tickets" "[LFerryTerminal$Ticket;", Cond.arrayClass .int, Cond.fieldLink RX5 33 "FerryTerminal" "logKinds" "[I", Cond.fieldLink RX5 37 "FerryTerminal" "logTickets" "[I", Cond.fieldLink RX5 40 "FerryTerminal" "logSailings" "[I"]
def wsL_law_r2 : List Cond := [Cond.methodLink RL 12 yX6_init, Cond.instanceMethod yX6_init, Cond.code yX6_init cX6_init 1 none, Cond.methodLink RX6 1 objectInit, Cond.fieldLink RX6 7 "FerryTerminalModel" "decks" "[I", Cond.fieldLink RX6 13 "FerryTerminalModel" "lanes" "[I", Cond.fieldLink RX6 16 "FerryTerminalModel" "lengths" "[I", Cond.arrayClass .boolean, Cond.fieldLink RX6 19 "FerryTerminalModel" "half" "[Z", Cond.fieldLink RX6 23 "FerryTerminalModel" "cabinShip" "[I", Cond.fieldLink RX6 26 "FerryTerminalModel" "beds" "[I", Cond.fieldLink RX6 29 "FerryTerminalModel" "ship" "[I", Cond.fieldLink RX6 32 "FerryTerminalModel" "minute" "[I", Cond.fieldLink RX6 35 "FerryTerminalModel" "line" "[I", Cond.fieldLink RX6 38 "FerryTerminalModel" "how" "[I", Cond.fieldLink RX6 41 "FerryTerminalModel" "done" "[I", Cond.fieldLink RX6 44 "FerryTerminalModel" "recall" "[I", Cond.fieldLink RX6 47 "FerryTerminalModel" "begun" "[I", Cond.fieldLink RX6 50 "FerryTerminalModel" "stage" "[I", Cond.fieldLink RX6 53 "FerryTerminalModel" "isOff" "[Z", Cond.fieldLink RX6 56 "FerryTerminalModel" "ticket" "[I", Cond.fieldLink RX6 59 "FerryTerminalModel" "boarded" "[I", Cond.fieldLink RX6 62 "FerryTerminalModel" "logKind" "[I", Cond.fieldLink RX6 65 "FerryTerminalModel" "logTicket" "[I"]
def wsL_law_r3 : List Cond := [Cond.fieldLink RX6 68 "FerryTerminalModel" "logSailing" "[I", Cond.fieldLink RX6 71 "FerryTerminalModel" "covered" "[Z", Cond.methodLink RL 13 yX5_ship, Cond.instanceMethod yX5_ship, Cond.selects RX5 yX5_ship yX5_ship, Cond.code yX5_ship cX5_ship 5 (some .int), Cond.fieldLink RX5 43 "FerryTerminal" "shipCount" "I", Cond.instantiable RX3 8, Cond.initialized RX3, Cond.methodLink RX5 47 yX5_within, Cond.static yX5_within, Cond.code yX5_within cX5_within 3 (some .boolean), Cond.instanceMethod yX3_init, Cond.code yX3_init cX3_init 6 none, Cond.methodLink RX3 3 objectInit, Cond.fieldLink RX3 9 "FerryTerminal$Ship" "number" "I", Cond.fieldLink RX3 15 "FerryTerminal$Ship" "decks" "I", Cond.fieldLink RX3 18 "FerryTerminal$Ship" "lanes" "I", Cond.fieldLink RX3 21 "FerryTerminal$Ship" "length" "I", Cond.fieldLink RX3 24 "FerryTerminal$Ship" "half" "Z", Cond.classLink RX3 28 RX4, Cond.fieldLink RX3 30 "FerryTerminal$Ship" "firsts" "[LFerryTerminal$Ticket;", Cond.methodLink RL 17 yX6_ship, Cond.instanceMethod yX6_ship]
def wsL_law_r4 : List Cond := [Cond.selects RX6 yX6_ship yX6_ship, Cond.code yX6_ship cX6_ship 5 (some .int), Cond.fieldLink RX6 81 "FerryTerminalModel" "ships" "I", Cond.methodLink RX6 84 yX6_isIn, Cond.static yX6_isIn, Cond.code yX6_isIn cX6_isIn 3 (some .boolean), Cond.methodLink RL 18 yX5_cabin, Cond.instanceMethod yX5_cabin, Cond.selects RX5 yX5_cabin yX5_cabin, Cond.code yX5_cabin cX5_cabin 4 (some .int), Cond.fieldLink RX5 58 "FerryTerminal" "cabinCount" "I", Cond.instantiable RX1 3, Cond.initialized RX1, Cond.methodLink RX5 54 yX5_shipNumbered, Cond.instanceMethod yX5_shipNumbered, Cond.selects RX5 yX5_shipNumbered yX5_shipNumbered, Cond.code yX5_shipNumbered cX5_shipNumbered 2 (some (.object "FerryTerminal$Ship")), Cond.instanceMethod yX1_init, Cond.code yX1_init cX1_init 3 none, Cond.methodLink RX1 1 objectInit, Cond.fieldLink RX1 7 "FerryTerminal$Cabin" "vessel" "LFerryTerminal$Ship;", Cond.fieldLink RX1 13 "FerryTerminal$Cabin" "beds" "I", Cond.methodLink RL 22 yX6_cabin, Cond.instanceMethod yX6_cabin]
def wsL_law_r5 : List Cond := [Cond.selects RX6 yX6_cabin yX6_cabin, Cond.code yX6_cabin cX6_cabin 3 (some .int), Cond.fieldLink RX6 92 "FerryTerminalModel" "cabins" "I", Cond.methodLink RX6 88 yX6_isShip, Cond.instanceMethod yX6_isShip, Cond.selects RX6 yX6_isShip yX6_isShip, Cond.code yX6_isShip cX6_isShip 2 (some .boolean), Cond.methodLink RL 23 yX5_sailing, Cond.instanceMethod yX5_sailing, Cond.selects RX5 yX5_sailing yX5_sailing, Cond.code yX5_sailing cX5_sailing 5 (some .int), Cond.fieldLink RX5 65 "FerryTerminal" "sailingCount" "I", Cond.constant RX5 68 (100000), Cond.instantiable RX2 9, Cond.initialized RX2, Cond.methodLink RX5 69 yX5_liesTooNear, Cond.instanceMethod yX5_liesTooNear, Cond.selects RX5 yX5_liesTooNear yX5_liesTooNear, Cond.code yX5_liesTooNear cX5_liesTooNear 5 (some .boolean), Cond.methodLink RX5 86 Lib.Math.abs.name, Cond.static Lib.Math.abs.name, Cond.initialized "java/lang/Math", Cond.code Lib.Math.abs.name Lib.Math.abs.code 1 (some .int), Cond.instanceMethod yX2_init]
def wsL_law_r6 : List Cond := [Cond.code yX2_init cX2_init 5 none, Cond.methodLink RX2 3 objectInit, Cond.fieldLink RX2 9 "FerryTerminal$Sailing" "how" "I", Cond.fieldLink RX2 15 "FerryTerminal$Sailing" "recallIn" "I", Cond.fieldLink RX2 18 "FerryTerminal$Sailing" "number" "I", Cond.fieldLink RX2 21 "FerryTerminal$Sailing" "vessel" "LFerryTerminal$Ship;", Cond.fieldLink RX2 25 "FerryTerminal$Sailing" "minute" "I", Cond.fieldLink RX2 28 "FerryTerminal$Sailing" "line" "I", Cond.methodLink RL 27 yX6_sailing, Cond.instanceMethod yX6_sailing, Cond.selects RX6 yX6_sailing yX6_sailing, Cond.code yX6_sailing cX6_sailing 5 (some .int), Cond.constant RX6 95 (100000), Cond.fieldLink RX6 78 "FerryTerminalModel" "sailings" "I", Cond.methodLink RX6 96 Lib.Math.abs.name, Cond.methodLink RL 28 yX5_book, Cond.instanceMethod yX5_book, Cond.selects RX5 yX5_book yX5_book, Cond.code yX5_book cX5_book 7 (some .int), Cond.fieldLink RX5 100 "FerryTerminal" "ticketCount" "I", Cond.instantiable RX4 16, Cond.initialized RX4, Cond.methodLink RX5 92 yX5_sailingNumbered, Cond.instanceMethod yX5_sailingNumbered]
def wsL_law_r7 : List Cond := [Cond.selects RX5 yX5_sailingNumbered yX5_sailingNumbered, Cond.code yX5_sailingNumbered cX5_sailingNumbered 2 (some (.object "FerryTerminal$Sailing")), Cond.instanceMethod yX2_takesTickets, Cond.selects RX2 yX2_takesTickets yX2_takesTickets, Cond.code yX2_takesTickets cX2_takesTickets 1 (some .boolean), Cond.methodLink RX2 31 yX2_isPlannedOrOpen, Cond.instanceMethod yX2_isPlannedOrOpen, Cond.selects RX2 yX2_isPlannedOrOpen yX2_isPlannedOrOpen, Cond.code yX2_isPlannedOrOpen cX2_isPlannedOrOpen 1 (some .boolean), Cond.methodLink RX5 109 yX5_fare, Cond.static yX5_fare, Cond.code yX5_fare cX5_fare 5 (some .int), Cond.instanceMethod yX4_init, Cond.code yX4_init cX4_init 7 none, Cond.methodLink RX4 3 objectInit, Cond.fieldLink RX4 9 "FerryTerminal$Ticket" "how" "I", Cond.fieldLink RX4 15 "FerryTerminal$Ticket" "minute" "I", Cond.fieldLink RX4 18 "FerryTerminal$Ticket" "deck" "I", Cond.fieldLink RX4 21 "FerryTerminal$Ticket" "lane" "I", Cond.fieldLink RX4 24 "FerryTerminal$Ticket" "place" "I", Cond.fieldLink RX4 27 "FerryTerminal$Ticket" "cabin" "I", Cond.fieldLink RX4 30 "FerryTerminal$Ticket" "number" "I", Cond.fieldLink RX4 33 "FerryTerminal$Ticket" "trip" "LFerryTerminal$Sailing;", Cond.fieldLink RX4 37 "FerryTerminal$Ticket" "length" "I"]
def wsL_law_r8 : List Cond := [Cond.fieldLink RX4 40 "FerryTerminal$Ticket" "height" "I", Cond.fieldLink RX4 43 "FerryTerminal$Ticket" "wish" "I", Cond.fieldLink RX4 46 "FerryTerminal$Ticket" "paid" "I", Cond.methodLink RL 32 yX6_book, Cond.instanceMethod yX6_book, Cond.selects RX6 yX6_book yX6_book, Cond.code yX6_book cX6_book 8 (some .int), Cond.fieldLink RX6 74 "FerryTerminalModel" "tickets" "I", Cond.methodLink RX6 102 yX6_isSailing, Cond.instanceMethod yX6_isSailing, Cond.selects RX6 yX6_isSailing yX6_isSailing, Cond.code yX6_isSailing cX6_isSailing 2 (some .boolean), Cond.methodLink RX6 105 yX6_isToGo, Cond.instanceMethod yX6_isToGo, Cond.selects RX6 yX6_isToGo yX6_isToGo, Cond.code yX6_isToGo cX6_isToGo 2 (some .boolean), Cond.methodLink RX6 108 yX6_put, Cond.instanceMethod yX6_put, Cond.selects RX6 yX6_put yX6_put, Cond.code yX6_put cX6_put 4 none, Cond.methodLink RL 33 yX5_arrive, Cond.instanceMethod yX5_arrive, Cond.selects RX5 yX5_arrive yX5_arrive, Cond.code yX5_arrive cX5_arrive 4 (some .boolean)]
def wsL_law_r9 : List Cond := [Cond.constant RX5 121 (200000), Cond.methodLink RX5 116 yX5_ticketNumbered, Cond.instanceMethod yX5_ticketNumbered, Cond.selects RX5 yX5_ticketNumbered yX5_ticketNumbered, Cond.code yX5_ticketNumbered cX5_ticketNumbered 2 (some (.object "FerryTerminal$Ticket")), Cond.methodLink RL 37 yX6_arrive, Cond.instanceMethod yX6_arrive, Cond.selects RX6 yX6_arrive yX6_arrive, Cond.code yX6_arrive cX6_arrive 3 (some .boolean), Cond.constant RX6 119 (200000), Cond.methodLink RX6 112 yX6_isTicket, Cond.instanceMethod yX6_isTicket, Cond.selects RX6 yX6_isTicket yX6_isTicket, Cond.code yX6_isTicket cX6_isTicket 2 (some .boolean), Cond.methodLink RX6 115 yX6_of, Cond.instanceMethod yX6_of, Cond.selects RX6 yX6_of yX6_of, Cond.code yX6_of cX6_of 3 (some .int), Cond.methodLink RL 38 yX5_open, Cond.instanceMethod yX5_open, Cond.selects RX5 yX5_open yX5_open, Cond.code yX5_open cX5_open 3 (some .boolean), Cond.methodLink RX5 130 yX5_hasOpenSailing, Cond.instanceMethod yX5_hasOpenSailing]
def wsL_law_r10 : List Cond := [Cond.selects RX5 yX5_hasOpenSailing yX5_hasOpenSailing, Cond.code yX5_hasOpenSailing cX5_hasOpenSailing 3 (some .boolean), Cond.methodLink RL 42 yX6_open, Cond.instanceMethod yX6_open, Cond.selects RX6 yX6_open yX6_open, Cond.code yX6_open cX6_open 2 (some .boolean), Cond.methodLink RX6 120 yX6_openOf, Cond.instanceMethod yX6_openOf, Cond.selects RX6 yX6_openOf yX6_openOf, Cond.code yX6_openOf cX6_openOf 3 (some .int), Cond.methodLink RL 43 yX5_recall, Cond.instanceMethod yX5_recall, Cond.selects RX5 yX5_recall yX5_recall, Cond.code yX5_recall cX5_recall 4 (some .boolean), Cond.methodLink RX5 148 yX5_bringRecallOn, Cond.instanceMethod yX5_bringRecallOn, Cond.selects RX5 yX5_bringRecallOn yX5_bringRecallOn, Cond.code yX5_bringRecallOn cX5_bringRecallOn 2 none, Cond.methodLink RX5 151 yX5_hasBoardingTurn, Cond.instanceMethod yX5_hasBoardingTurn, Cond.selects RX5 yX5_hasBoardingTurn yX5_hasBoardingTurn, Cond.code yX5_hasBoardingTurn cX5_hasBoardingTurn 4 (some .boolean), Cond.methodLink RX5 225 yX5_latestAboard, Cond.instanceMethod yX5_latestAboard]
def wsL_law_r11 : List Cond := [Cond.selects RX5 yX5_latestAboard yX5_latestAboard, Cond.code yX5_latestAboard cX5_latestAboard 5 (some (.object "FerryTerminal$Ticket")), Cond.methodLink RX5 228 yX5_firstToMoveOn, Cond.instanceMethod yX5_firstToMoveOn, Cond.selects RX5 yX5_firstToMoveOn yX5_firstToMoveOn, Cond.code yX5_firstToMoveOn cX5_firstToMoveOn 4 (some (.object "FerryTerminal$Ticket")), Cond.methodLink RL 46 yX6_recall, Cond.instanceMethod yX6_recall, Cond.selects RX6 yX6_recall yX6_recall, Cond.code yX6_recall cX6_recall 3 (some .boolean), Cond.methodLink RX6 123 yX6_lookAtRecall, Cond.instanceMethod yX6_lookAtRecall, Cond.selects RX6 yX6_lookAtRecall yX6_lookAtRecall, Cond.code yX6_lookAtRecall cX6_lookAtRecall 2 none, Cond.methodLink RX6 127 yX6_hasTurn, Cond.instanceMethod yX6_hasTurn, Cond.selects RX6 yX6_hasTurn yX6_hasTurn, Cond.code yX6_hasTurn cX6_hasTurn 2 (some .boolean), Cond.methodLink RX6 166 yX6_nextTurn, Cond.instanceMethod yX6_nextTurn, Cond.selects RX6 yX6_nextTurn yX6_nextTurn, Cond.code yX6_nextTurn cX6_nextTurn 3 (some .int), Cond.fieldLink RX6 157 "FerryTerminalModel" "about" "I", Cond.methodLink RX6 160 yX6_recallTurn]
def wsL_law_r12 : List Cond := [Cond.instanceMethod yX6_recallTurn, Cond.selects RX6 yX6_recallTurn yX6_recallTurn, Cond.code yX6_recallTurn cX6_recallTurn 4 (some .int), Cond.methodLink RX6 130 yX6_isAboard, Cond.instanceMethod yX6_isAboard, Cond.selects RX6 yX6_isAboard yX6_isAboard, Cond.code yX6_isAboard cX6_isAboard 3 (some .boolean), Cond.methodLink RX6 163 yX6_isAhead, Cond.instanceMethod yX6_isAhead, Cond.selects RX6 yX6_isAhead yX6_isAhead, Cond.code yX6_isAhead cX6_isAhead 4 (some .boolean), Cond.methodLink RX6 169 yX6_isLate, Cond.instanceMethod yX6_isLate, Cond.selects RX6 yX6_isLate yX6_isLate, Cond.code yX6_isLate cX6_isLate 3 (some .boolean), Cond.methodLink RL 47 yX5_settle, Cond.instanceMethod yX5_settle, Cond.selects RX5 yX5_settle yX5_settle, Cond.code yX5_settle cX5_settle 4 (some .int), Cond.methodLink RX5 134 yX5_firstWithTurn, Cond.instanceMethod yX5_firstWithTurn, Cond.selects RX5 yX5_firstWithTurn yX5_firstWithTurn, Cond.code yX5_firstWithTurn cX5_firstWithTurn 3 (some (.object "FerryTerminal$Sailing")), Cond.methodLink RX5 141 yX5_doRecallTurn]
def wsL_law_r13 : List Cond := [Cond.instanceMethod yX5_doRecallTurn, Cond.selects RX5 yX5_doRecallTurn yX5_doRecallTurn, Cond.code yX5_doRecallTurn cX5_doRecallTurn 5 none, Cond.methodLink RX5 231 yX5_bringOff, Cond.instanceMethod yX5_bringOff, Cond.selects RX5 yX5_bringOff yX5_bringOff, Cond.code yX5_bringOff cX5_bringOff 2 none, Cond.instanceMethod yX3_clearPlace, Cond.selects RX3 yX3_clearPlace yX3_clearPlace, Cond.code yX3_clearPlace cX3_clearPlace 2 none, Cond.fieldLink RX3 95 "FerryTerminal$Ship" "standing" "I", Cond.methodLink RX3 87 yX3_nextAhead, Cond.instanceMethod yX3_nextAhead, Cond.selects RX3 yX3_nextAhead yX3_nextAhead, Cond.code yX3_nextAhead cX3_nextAhead 4 (some (.object "FerryTerminal$Ticket")), Cond.methodLink RX3 38 yX3_nearestBow, Cond.instanceMethod yX3_nearestBow, Cond.selects RX3 yX3_nearestBow yX3_nearestBow, Cond.code yX3_nearestBow cX3_nearestBow 3 (some (.object "FerryTerminal$Ticket")), Cond.methodLink RX3 34 yX3_hasLane, Cond.instanceMethod yX3_hasLane, Cond.selects RX3 yX3_hasLane yX3_hasLane, Cond.code yX3_hasLane cX3_hasLane 3 (some .boolean), Cond.methodLink RX3 91 yX3_chain]
def wsL_law_r14 : List Cond := [Cond.instanceMethod yX3_chain, Cond.selects RX3 yX3_chain yX3_chain, Cond.code yX3_chain cX3_chain 4 none, Cond.methodLink RX5 222 yX5_freeCabin, Cond.instanceMethod yX5_freeCabin, Cond.selects RX5 yX5_freeCabin yX5_freeCabin, Cond.code yX5_freeCabin cX5_freeCabin 2 none, Cond.methodLink RX5 173 yX5_writeLog, Cond.instanceMethod yX5_writeLog, Cond.selects RX5 yX5_writeLog yX5_writeLog, Cond.code yX5_writeLog cX5_writeLog 4 none, Cond.fieldLink RX5 159 "FerryTerminal" "turnsEver" "I", Cond.methodLink RX5 235 yX5_nextOfLine, Cond.instanceMethod yX5_nextOfLine, Cond.selects RX5 yX5_nextOfLine yX5_nextOfLine, Cond.code yX5_nextOfLine cX5_nextOfLine 6 (some (.object "FerryTerminal$Sailing")), Cond.methodLink RX5 145 yX5_doBoardingTurn, Cond.instanceMethod yX5_doBoardingTurn, Cond.selects RX5 yX5_doBoardingTurn yX5_doBoardingTurn, Cond.code yX5_doBoardingTurn cX5_doBoardingTurn 4 none, Cond.methodLink RX5 169 yX5_firstHere, Cond.instanceMethod yX5_firstHere, Cond.selects RX5 yX5_firstHere yX5_firstHere, Cond.code yX5_firstHere cX5_firstHere 5 (some (.object "FerryTerminal$Ticket"))]
def wsL_law_r15 : List Cond := [Cond.methodLink RX5 177 yX5_goOnAfterRamp, Cond.instanceMethod yX5_goOnAfterRamp, Cond.selects RX5 yX5_goOnAfterRamp yX5_goOnAfterRamp, Cond.code yX5_goOnAfterRamp cX5_goOnAfterRamp 3 none, Cond.methodLink RX5 204 yX5_takeFreeCabin, Cond.instanceMethod yX5_takeFreeCabin, Cond.selects RX5 yX5_takeFreeCabin yX5_takeFreeCabin, Cond.code yX5_takeFreeCabin cX5_takeFreeCabin 5 (some .int), Cond.methodLink RX5 181 yX5_firstOfBoardingList, Cond.instanceMethod yX5_firstOfBoardingList, Cond.selects RX5 yX5_firstOfBoardingList yX5_firstOfBoardingList, Cond.code yX5_firstOfBoardingList cX5_firstOfBoardingList 5 (some (.object "FerryTerminal$Ticket")), Cond.instanceMethod yX4_boardsAheadOf, Cond.selects RX4 yX4_boardsAheadOf yX4_boardsAheadOf, Cond.code yX4_boardsAheadOf cX4_boardsAheadOf 2 (some .boolean), Cond.methodLink RX4 52 yX4_isLate, Cond.instanceMethod yX4_isLate, Cond.selects RX4 yX4_isLate yX4_isLate, Cond.code yX4_isLate cX4_isLate 1 (some .boolean), Cond.methodLink RX5 184 yX5_doRampTurn, Cond.instanceMethod yX5_doRampTurn, Cond.selects RX5 yX5_doRampTurn yX5_doRampTurn, Cond.code yX5_doRampTurn cX5_doRampTurn 3 none, Cond.instanceMethod yX3_placeByDeckRule]
def wsL_law_r16 : List Cond := [Cond.selects RX3 yX3_placeByDeckRule yX3_placeByDeckRule, Cond.code yX3_placeByDeckRule cX3_placeByDeckRule 8 (some .boolean), Cond.methodLink RX3 66 yX3_freePlaces, Cond.instanceMethod yX3_freePlaces, Cond.selects RX3 yX3_freePlaces yX3_freePlaces, Cond.code yX3_freePlaces cX3_freePlaces 5 (some .int), Cond.methodLink RX3 69 yX3_mayStand, Cond.instanceMethod yX3_mayStand, Cond.selects RX3 yX3_mayStand yX3_mayStand, Cond.code yX3_mayStand cX3_mayStand 5 (some .boolean), Cond.methodLink RX3 56 yX3_tallStandsUnder, Cond.instanceMethod yX3_tallStandsUnder, Cond.selects RX3 yX3_tallStandsUnder yX3_tallStandsUnder, Cond.code yX3_tallStandsUnder cX3_tallStandsUnder 3 (some .boolean), Cond.methodLink RX3 60 yX3_somethingOnDeckOne, Cond.instanceMethod yX3_somethingOnDeckOne, Cond.selects RX3 yX3_somethingOnDeckOne yX3_somethingOnDeckOne, Cond.code yX3_somethingOnDeckOne cX3_somethingOnDeckOne 2 (some .boolean), Cond.methodLink RX3 73 yX3_firstGap, Cond.instanceMethod yX3_firstGap, Cond.selects RX3 yX3_firstGap yX3_firstGap, Cond.code yX3_firstGap cX3_firstGap 6 (some .int), Cond.methodLink RX3 77 yX3_putInPlace, Cond.instanceMethod yX3_putInPlace]
def wsL_law_r17 : List Cond := [Cond.selects RX3 yX3_putInPlace yX3_putInPlace, Cond.code yX3_putInPlace cX3_putInPlace 6 none, Cond.methodLink RL 51 yX6_settle, Cond.instanceMethod yX6_settle, Cond.selects RX6 yX6_settle yX6_settle, Cond.code yX6_settle cX6_settle 5 (some .int), Cond.methodLink RX6 194 yX6_turn, Cond.instanceMethod yX6_turn, Cond.selects RX6 yX6_turn yX6_turn, Cond.code yX6_turn cX6_turn 4 (some .boolean), Cond.methodLink RX6 175 yX6_write, Cond.instanceMethod yX6_write, Cond.selects RX6 yX6_write yX6_write, Cond.code yX6_write cX6_write 4 none, Cond.fieldLink RX6 172 "FerryTerminalModel" "turns" "I", Cond.methodLink RX6 178 yX6_goesOn, Cond.instanceMethod yX6_goesOn, Cond.selects RX6 yX6_goesOn yX6_goesOn, Cond.code yX6_goesOn cX6_goesOn 4 none, Cond.methodLink RX6 191 yX6_cabinFor, Cond.instanceMethod yX6_cabinFor, Cond.selects RX6 yX6_cabinFor yX6_cabinFor, Cond.code yX6_cabinFor cX6_cabinFor 6 (some .int), Cond.methodLink RX6 182 yX6_boards]
def wsL_law_r18 : List Cond := [Cond.instanceMethod yX6_boards, Cond.selects RX6 yX6_boards yX6_boards, Cond.code yX6_boards cX6_boards 10 (some .boolean), Cond.fieldLink RX6 140 "FerryTerminalModel" "firstGap" "I", Cond.fieldLink RX6 134 "FerryTerminalModel" "free" "I", Cond.fieldLink RX6 154 "FerryTerminalModel" "boardings" "I", Cond.methodLink RX6 146 yX6_mayStand, Cond.instanceMethod yX6_mayStand, Cond.selects RX6 yX6_mayStand yX6_mayStand, Cond.code yX6_mayStand cX6_mayStand 8 (some .boolean), Cond.methodLink RX6 150 yX6_measure, Cond.instanceMethod yX6_measure, Cond.selects RX6 yX6_measure yX6_measure, Cond.code yX6_measure cX6_measure 10 none, Cond.fieldLink RX6 137 "FerryTerminalModel" "longest" "I", Cond.methodLink RX6 143 Lib.Math.max.name, Cond.static Lib.Math.max.name, Cond.code Lib.Math.max.name Lib.Math.max.code 2 (some .int), Cond.methodLink RX6 185 yX6_comesOff, Cond.instanceMethod yX6_comesOff, Cond.selects RX6 yX6_comesOff yX6_comesOff, Cond.code yX6_comesOff cX6_comesOff 2 none, Cond.methodLink RX6 188 yX6_goesAway, Cond.instanceMethod yX6_goesAway]
def wsL_law_r19 : List Cond := [Cond.selects RX6 yX6_goesAway yX6_goesAway, Cond.code yX6_goesAway cX6_goesAway 5 none, Cond.methodLink RL 52 yX5_depart, Cond.instanceMethod yX5_depart, Cond.selects RX5 yX5_depart yX5_depart, Cond.code yX5_depart cX5_depart 6 (some .int), Cond.methodLink RX5 248 yX5_endTicket, Cond.instanceMethod yX5_endTicket, Cond.selects RX5 yX5_endTicket yX5_endTicket, Cond.code yX5_endTicket cX5_endTicket 2 none, Cond.methodLink RL 55 yX6_depart, Cond.instanceMethod yX6_depart, Cond.selects RX6 yX6_depart yX6_depart, Cond.code yX6_depart cX6_depart 5 (some .int), Cond.methodLink RL 56 yX5_off, Cond.instanceMethod yX5_off, Cond.selects RX5 yX5_off yX5_off, Cond.code yX5_off cX5_off 4 (some .boolean), Cond.methodLink RL 59 yX6_off, Cond.instanceMethod yX6_off, Cond.selects RX6 yX6_off yX6_off, Cond.code yX6_off cX6_off 4 (some .boolean), Cond.methodLink RL 60 yX5_shipOf, Cond.instanceMethod yX5_shipOf]
def wsL_law_r20 : List Cond := [Cond.selects RX5 yX5_shipOf yX5_shipOf, Cond.code yX5_shipOf cX5_shipOf 4 (some .int), Cond.methodLink RL 63 yX6_shipOf, Cond.instanceMethod yX6_shipOf, Cond.selects RX6 yX6_shipOf yX6_shipOf, Cond.code yX6_shipOf cX6_shipOf 6 (some .int), Cond.methodLink RL 64 yX5_sailingOf, Cond.instanceMethod yX5_sailingOf, Cond.selects RX5 yX5_sailingOf yX5_sailingOf, Cond.code yX5_sailingOf cX5_sailingOf 4 (some .int), Cond.methodLink RX5 267 yX5_ticketsOf, Cond.instanceMethod yX5_ticketsOf, Cond.selects RX5 yX5_ticketsOf yX5_ticketsOf, Cond.code yX5_ticketsOf cX5_ticketsOf 4 (some .int), Cond.methodLink RL 67 yX6_sailingOf, Cond.instanceMethod yX6_sailingOf, Cond.selects RX6 yX6_sailingOf yX6_sailingOf, Cond.code yX6_sailingOf cX6_sailingOf 5 (some .int), Cond.methodLink RL 68 yX5_ticketOf, Cond.instanceMethod yX5_ticketOf, Cond.selects RX5 yX5_ticketOf yX5_ticketOf, Cond.code yX5_ticketOf cX5_ticketOf 4 (some .int), Cond.instanceMethod yX4_tell, Cond.selects RX4 yX4_tell yX4_tell]
def wsL_law_r21 : List Cond := [Cond.code yX4_tell cX4_tell 2 (some .int), Cond.fieldLink RX4 57 "FerryTerminal$Ticket" "back" "I", Cond.fieldLink RX4 60 "FerryTerminal$Ticket" "timesOn" "I", Cond.methodLink RL 71 yX6_ticketOf, Cond.instanceMethod yX6_ticketOf, Cond.selects RX6 yX6_ticketOf yX6_ticketOf, Cond.code yX6_ticketOf cX6_ticketOf 3 (some .int), Cond.methodLink RL 72 yX5_at, Cond.instanceMethod yX5_at, Cond.selects RX5 yX5_at yX5_at, Cond.code yX5_at cX5_at 7 (some .int), Cond.methodLink RL 75 yX6_at, Cond.instanceMethod yX6_at, Cond.selects RX6 yX6_at yX6_at, Cond.code yX6_at cX6_at 5 (some .int), Cond.methodLink RX6 197 yX6_isLane, Cond.instanceMethod yX6_isLane, Cond.selects RX6 yX6_isLane yX6_isLane, Cond.code yX6_isLane cX6_isLane 4 (some .boolean), Cond.methodLink RX6 200 yX6_covers, Cond.instanceMethod yX6_covers, Cond.selects RX6 yX6_covers yX6_covers, Cond.code yX6_covers cX6_covers 6 (some .int), Cond.methodLink RL 76 yX5_lane]
def wsL_law_r22 : List Cond := [Cond.instanceMethod yX5_lane, Cond.selects RX5 yX5_lane yX5_lane, Cond.code yX5_lane cX5_lane 6 (some .int), Cond.instanceMethod yX3_longestGap, Cond.selects RX3 yX3_longestGap yX3_longestGap, Cond.code yX3_longestGap cX3_longestGap 6 (some .int), Cond.methodLink RX3 50 Lib.Math.max.name, Cond.methodLink RL 79 yX6_lane, Cond.instanceMethod yX6_lane, Cond.selects RX6 yX6_lane yX6_lane, Cond.code yX6_lane cX6_lane 6 (some .int), Cond.methodLink RL 80 yX5_log, Cond.instanceMethod yX5_log, Cond.selects RX5 yX5_log yX5_log, Cond.code yX5_log cX5_log 3 (some .int), Cond.methodLink RX5 295 Lib.Math.min.name, Cond.static Lib.Math.min.name, Cond.code Lib.Math.min.name Lib.Math.min.code 2 (some .int), Cond.methodLink RL 83 yX6_log, Cond.instanceMethod yX6_log, Cond.selects RX6 yX6_log yX6_log, Cond.code yX6_log cX6_log 3 (some .int), Cond.methodLink RL 84 yX5_count, Cond.instanceMethod yX5_count]
def wsL_law_r23 : List Cond := [Cond.selects RX5 yX5_count yX5_count, Cond.code yX5_count cX5_count 2 (some .int), Cond.methodLink RL 87 yX6_count, Cond.instanceMethod yX6_count, Cond.selects RX6 yX6_count yX6_count, Cond.code yX6_count cX6_count 2 (some .int), Cond.methodLink RL 88 yX5_total, Cond.instanceMethod yX5_total, Cond.selects RX5 yX5_total yX5_total, Cond.code yX5_total cX5_total 7 (some .int), Cond.methodLink RX5 298 yX5_shareOfTotal, Cond.static yX5_shareOfTotal, Cond.code yX5_shareOfTotal cX5_shareOfTotal 2 (some .int), Cond.methodLink RL 91 yX6_total, Cond.instanceMethod yX6_total, Cond.selects RX6 yX6_total yX6_total, Cond.code yX6_total cX6_total 5 (some .int), Cond.methodLink RL 92 yX5_kept, Cond.instanceMethod yX5_kept, Cond.selects RX5 yX5_kept yX5_kept, Cond.code yX5_kept cX5_kept 4 (some .long), Cond.methodLink RL 96 yX6_kept, Cond.instanceMethod yX6_kept, Cond.selects RX6 yX6_kept yX6_kept]
def wsL_law_r24 : List Cond := [Cond.code yX6_kept cX6_kept 4 (some .long), Cond.methodLink RL 97 yX5_audit, Cond.instanceMethod yX5_audit, Cond.selects RX5 yX5_audit yX5_audit, Cond.code yX5_audit cX5_audit 5 (some .int), Cond.classLink RX5 302 RX0, Cond.instantiable RX0 3, Cond.initialized RX0, Cond.instanceMethod yX0_init, Cond.code yX0_init cX0_init 4 none, Cond.methodLink RX0 3 objectInit, Cond.fieldLink RX0 9 "FerryTerminal$Alteration" "altered" "LFerryTerminal$Ticket;", Cond.fieldLink RX0 15 "FerryTerminal$Alteration" "what" "I", Cond.fieldLink RX0 19 "FerryTerminal$Alteration" "mask" "I", Cond.methodLink RX5 307 yX5_firstWrong, Cond.instanceMethod yX5_firstWrong, Cond.selects RX5 yX5_firstWrong yX5_firstWrong, Cond.code yX5_firstWrong cX5_firstWrong 4 (some .int), Cond.methodLink RX5 311 yX5_placeAgrees, Cond.instanceMethod yX5_placeAgrees, Cond.selects RX5 yX5_placeAgrees yX5_placeAgrees, Cond.code yX5_placeAgrees cX5_placeAgrees 8 (some .boolean), Cond.instanceMethod yX0_number, Cond.selects RX0 yX0_number yX0_number]
def wsL_law_r25 : List Cond := [Cond.code yX0_number cX0_number 4 (some .int), Cond.methodLink RX5 326 yX5_overlap, Cond.static yX5_overlap, Cond.code yX5_overlap cX5_overlap 7 (some .boolean), Cond.methodLink RX5 315 yX5_cabinAgrees, Cond.instanceMethod yX5_cabinAgrees, Cond.selects RX5 yX5_cabinAgrees yX5_cabinAgrees, Cond.code yX5_cabinAgrees cX5_cabinAgrees 7 (some .boolean), Cond.instanceMethod yX0_mayHaveCabin, Cond.selects RX0 yX0_mayHaveCabin yX0_mayHaveCabin, Cond.code yX0_mayHaveCabin cX0_mayHaveCabin 3 (some .boolean), Cond.methodLink RX0 28 yX0_number, Cond.methodLink RX5 318 yX5_minuteAgrees, Cond.static yX5_minuteAgrees, Cond.code yX5_minuteAgrees cX5_minuteAgrees 3 (some .boolean), Cond.methodLink RX5 321 yX5_moneyAgrees, Cond.static yX5_moneyAgrees, Cond.code yX5_moneyAgrees cX5_moneyAgrees 5 (some .boolean), Cond.methodLink RL 100 yX6_audit, Cond.instanceMethod yX6_audit, Cond.selects RX6 yX6_audit yX6_audit, Cond.code yX6_audit cX6_audit 6 (some .int), Cond.methodLink RX6 204 yX6_agrees, Cond.instanceMethod yX6_agrees]
def wsL_law_r26 : List Cond := [Cond.selects RX6 yX6_agrees yX6_agrees, Cond.code yX6_agrees cX6_agrees 6 (some .boolean), Cond.methodLink RX6 207 yX6_isPlaceRight, Cond.instanceMethod yX6_isPlaceRight, Cond.selects RX6 yX6_isPlaceRight yX6_isPlaceRight, Cond.code yX6_isPlaceRight cX6_isPlaceRight 8 (some .boolean), Cond.methodLink RX6 210 yX6_isCabinRight, Cond.instanceMethod yX6_isCabinRight, Cond.selects RX6 yX6_isCabinRight yX6_isCabinRight, Cond.code yX6_isCabinRight cX6_isCabinRight 6 (some .boolean)]
def wsL_law : List Cond := (wsL_law_r1 ++ (wsL_law_r2 ++ (wsL_law_r3 ++ (wsL_law_r4 ++ (wsL_law_r5 ++ (wsL_law_r6 ++ (wsL_law_r7 ++ (wsL_law_r8 ++ (wsL_law_r9 ++ (wsL_law_r10 ++ (wsL_law_r11 ++ (wsL_law_r12 ++ (wsL_law_r13 ++ (wsL_law_r14 ++ (wsL_law_r15 ++ (wsL_law_r16 ++ (wsL_law_r17 ++ (wsL_law_r18 ++ (wsL_law_r19 ++ (wsL_law_r20 ++ (wsL_law_r21 ++ (wsL_law_r22 ++ (wsL_law_r23 ++ (wsL_law_r24 ++ (wsL_law_r25 ++ wsL_law_r26))))))))))))))))))))))))) ++ wsX50 ++ wsX60 ++ wsX30 ++ wsX10 ++ wsX20 ++ wsX40 ++ wsX00 ++ ([] : List Cond)
end
section
set_option maxRecDepth 20000 in
theorem wsL_law_r1_in : GoodIn lw_tbl wsL_law_r1 := goodIn_p _ [87, 90] rfl (by decide +kernel)
set_option maxRecDepth 20000 in
theorem wsL_law_r2_in : GoodIn lw_tbl wsL_law_r2 := goodIn_p _ [623] rfl (by decide +kernel)
set_option maxRecDepth 20000 in
theorem wsL_law_r3_in : GoodIn lw_tbl wsL_law_r3 := goodIn_p _ [140, 143, 147] rfl (by decide +kernel)
set_option maxRecDepth 20000 in
theorem wsL_law_r4_in : GoodIn lw_tbl wsL_law_r4 := goodIn_p _ [723, 726, 184, 188, 192] rfl (by decide +kernel)
set_option maxRecDepth 20000 in
theorem wsL_law_r5_in : GoodIn lw_tbl wsL_law_r5 := goodIn_p _ [730, 734, 209, 214, 217] rfl (by decide +kernel)
set_option maxRecDepth 20000 in
theorem wsL_law_r6_in : GoodIn lw_tbl wsL_law_r6 := goodIn_p _ [221, 738, 262] rfl (by decide +kernel)
set_option maxRecDepth 20000 in
theorem wsL_law_r7_in : GoodIn lw_tbl wsL_law_r7 := goodIn_p _ [266, 270, 274, 277, 281] rfl (by decide +kernel)
set_option maxRecDepth 20000 in
theorem wsL_law_r8_in : GoodIn lw_tbl wsL_law_r8 := goodIn_p _ [744, 748, 752, 756, 352] rfl (by decide +kernel)
set_option maxRecDepth 20000 in
theorem wsL_law_r9_in : GoodIn lw_tbl wsL_law_r9 := goodIn_p _ [356, 760, 764, 768, 362] rfl (by decide +kernel)
set_option maxRecDepth 20000 in
theorem wsL_law_r10_in : GoodIn lw_tbl wsL_law_r10 := goodIn_p _ [366, 773, 777, 494, 490, 378] rfl (by decide +kernel)
set_option maxRecDepth 20000 in
theorem wsL_law_r11_in : GoodIn lw_tbl wsL_law_r11 := goodIn_p _ [386, 422, 781, 785, 789, 793] rfl (by decide +kernel)
set_option maxRecDepth 20000 in
theorem wsL_law_r12_in : GoodIn lw_tbl wsL_law_r12 := goodIn_p _ [797, 801, 805, 809, 370, 374] rfl (by decide +kernel)
set_option maxRecDepth 20000 in
theorem wsL_law_r13_in : GoodIn lw_tbl wsL_law_r13 := goodIn_p _ [382, 390, 394, 398, 402, 406] rfl (by decide +kernel)
set_option maxRecDepth 20000 in
theorem wsL_law_r14_in : GoodIn lw_tbl wsL_law_r14 := goodIn_p _ [410, 414, 418, 426, 430, 434] rfl (by decide +kernel)
set_option maxRecDepth 20000 in
theorem wsL_law_r15_in : GoodIn lw_tbl wsL_law_r15 := goodIn_p _ [438, 442, 446, 450, 454, 458] rfl (by decide +kernel)
set_option maxRecDepth 20000 in
theorem wsL_law_r16_in : GoodIn lw_tbl wsL_law_r16 := goodIn_p _ [462, 466, 470, 474, 478, 482] rfl (by decide +kernel)
set_option maxRecDepth 20000 in
theorem wsL_law_r17_in : GoodIn lw_tbl wsL_law_r17 := goodIn_p _ [486, 813, 817, 821, 825, 829] rfl (by decide +kernel)
set_option maxRecDepth 20000 in
theorem wsL_law_r18_in : GoodIn lw_tbl wsL_law_r18 := goodIn_p _ [833, 837, 841, 544, 846] rfl (by decide +kernel)
set_option maxRecDepth 20000 in
theorem wsL_law_r19_in : GoodIn lw_tbl wsL_law_r19 := goodIn_p _ [850, 498, 502, 854, 506, 858] rfl (by decide +kernel)
set_option maxRecDepth 20000 in
theorem wsL_law_r20_in : GoodIn lw_tbl wsL_law_r20 := goodIn_p _ [510, 862, 514, 518, 866, 522] rfl (by decide +kernel)
set_option maxRecDepth 20000 in
theorem wsL_law_r21_in : GoodIn lw_tbl wsL_law_r21 := goodIn_p _ [526, 870, 530, 874, 878, 882] rfl (by decide +kernel)
set_option maxRecDepth 20000 in
theorem wsL_law_r22_in : GoodIn lw_tbl wsL_law_r22 := goodIn_p _ [535, 541, 886, 549, 552, 890] rfl (by decide +kernel)
set_option maxRecDepth 20000 in
theorem wsL_law_r23_in : GoodIn lw_tbl wsL_law_r23 := goodIn_p _ [556, 894, 560, 563, 898, 567] rfl (by decide +kernel)
set_option maxRecDepth 20000 in
theorem wsL_law_r24_in : GoodIn lw_tbl wsL_law_r24 := goodIn_p _ [902, 571, 576, 591, 595] rfl (by decide +kernel)
set_option maxRecDepth 20000 in
theorem wsL_law_r25_in : GoodIn lw_tbl wsL_law_r25 := goodIn_p _ [599, 603, 607, 611, 615, 618, 906] rfl (by decide +kernel)
set_option maxRecDepth 20000 in
theorem wsL_law_r26_in : GoodIn lw_tbl wsL_law_r26 := goodIn_p _ [910, 914, 918] rfl (by decide +kernel)
set_option maxRecDepth 20000 in
theorem wsX50_inL : GoodIn lw_tbl wsX50 := goodIn_of _ (by decide +kernel)
set_option maxRecDepth 20000 in
theorem wsX60_inL : GoodIn lw_tbl wsX60 := goodIn_of _ (by decide +kernel)
set_option maxRecDepth 20000 in
theorem wsX30_inL : GoodIn lw_tbl wsX30 := goodIn_of _ (by decide +kernel)
set_option maxRecDepth 20000 in
theorem wsX10_inL : GoodIn lw_tbl wsX10 := goodIn_of _ (by decide +kernel)
set_option maxRecDepth 20000 in
theorem wsX20_inL : GoodIn lw_tbl wsX20 := goodIn_of _ (by decide +kernel)
set_option maxRecDepth 20000 in
theorem wsX40_inL : GoodIn lw_tbl wsX40 := goodIn_of _ (by decide +kernel)
set_option maxRecDepth 20000 in
theorem wsX00_inL : GoodIn lw_tbl wsX00 := goodIn_of _ (by decide +kernel)
set_option maxRecDepth 20000 in
theorem wsL_law_in : ∀ w ∈ wsL_law, w ∈ lw_tbl := fun w h => ((goodIn_app (goodIn_app (goodIn_app (goodIn_app (goodIn_app (goodIn_app (goodIn_app (goodIn_app (goodIn_app wsL_law_r1_in (goodIn_app wsL_law_r2_in (goodIn_app wsL_law_r3_in (goodIn_app wsL_law_r4_in (goodIn_app wsL_law_r5_in (goodIn_app wsL_law_r6_in (goodIn_app wsL_law_r7_in (goodIn_app wsL_law_r8_in (goodIn_app wsL_law_r9_in (goodIn_app wsL_law_r10_in (goodIn_app wsL_law_r11_in (goodIn_app wsL_law_r12_in (goodIn_app wsL_law_r13_in (goodIn_app wsL_law_r14_in (goodIn_app wsL_law_r15_in (goodIn_app wsL_law_r16_in (goodIn_app wsL_law_r17_in (goodIn_app wsL_law_r18_in (goodIn_app wsL_law_r19_in (goodIn_app wsL_law_r20_in (goodIn_app wsL_law_r21_in (goodIn_app wsL_law_r22_in (goodIn_app wsL_law_r23_in (goodIn_app wsL_law_r24_in (goodIn_app wsL_law_r25_in wsL_law_r26_in))))))))))))))))))))))))) wsX50_inL) wsX60_inL) wsX30_inL) wsX10_inL) wsX20_inL) wsX40_inL) wsX00_inL) (fun w h => absurd h List.not_mem_nil) : GoodIn lw_tbl wsL_law) w h).1
end
section
theorem inlX0 : ∀ w ∈ wsX00, w ∈ wsL_law := fun _ h => List.mem_append_left _ (List.mem_append_right _ h)
theorem inX0 : ∀ w ∈ wsX00, w ∈ lw_tbl := fun w h => wsL_law_in w (inlX0 w h)
theorem inlX1 : ∀ w ∈ wsX10, w ∈ wsL_law := fun _ h => List.mem_append_left _ (List.mem_append_left _ (List.mem_append_left _ (List.mem_append_left _ (List.mem_append_right _ h))))
theorem inX1 : ∀ w ∈ wsX10, w ∈ lw_tbl := fun w h => wsL_law_in w (inlX1 w h)
theorem inlX2 : ∀ w ∈ wsX20, w ∈ wsL_law := fun _ h => List.mem_append_left _ (List.mem_append_left _ (List.mem_append_left _ (List.mem_append_right _ h)))
theorem inX2 : ∀ w ∈ wsX20, w ∈ lw_tbl := fun w h => wsL_law_in w (inlX2 w h)
theorem inlX3 : ∀ w ∈ wsX30, w ∈ wsL_law := fun _ h => List.mem_append_left _ (List.mem_append_left _ (List.mem_append_left _ (List.mem_append_left _ (List.mem_append_left _ (List.mem_append_right _ h)))))
theorem inX3 : ∀ w ∈ wsX30, w ∈ lw_tbl := fun w h => wsL_law_in w (inlX3 w h)
theorem inlX4 : ∀ w ∈ wsX40, w ∈ wsL_law := fun _ h => List.mem_append_left _ (List.mem_append_left _ (List.mem_append_right _ h))
theorem inX4 : ∀ w ∈ wsX40, w ∈ lw_tbl := fun w h => wsL_law_in w (inlX4 w h)
theorem inlX5 : ∀ w ∈ wsX50, w ∈ wsL_law := fun _ h => List.mem_append_left _ (List.mem_append_left _ (List.mem_append_left _ (List.mem_append_left _ (List.mem_append_left _ (List.mem_append_left _ (List.mem_append_left _ (List.mem_append_right _ h)))))))
theorem inX5 : ∀ w ∈ wsX50, w ∈ lw_tbl := fun w h => wsL_law_in w (inlX5 w h)
theorem inlX6 : ∀ w ∈ wsX60, w ∈ wsL_law := fun _ h => List.mem_append_left _ (List.mem_append_left _ (List.mem_append_left _ (List.mem_append_left _ (List.mem_append_left _ (List.mem_append_left _ (List.mem_append_right _ h))))))
theorem inX6 : ∀ w ∈ wsX60, w ∈ lw_tbl := fun w h => wsL_law_in w (inlX6 w h)
theorem inJ9 : ∀ w ∈ wsJ90, w ∈ lw_tbl := by decide +kernel
theorem dX0_init_0 : decode cX0_init 0 = .ok (.aload_n 0, 1) := by decide +kernel
theorem dX0_init_1 : decode cX0_init 1 = .ok (.invokespecial 3, 3) := by decide +kernel
theorem dX0_init_4 : decode cX0_init 4 = .ok (.aload_n 0, 1) := by decide +kernel
theorem dX0_init_5 : decode cX0_init 5 = .ok (.aload_n 1, 1) := by decide +kernel
theorem dX0_init_6 : decode cX0_init 6 = .ok (.putfield 9, 3) := by decide +kernel
theorem dX0_init_9 : decode cX0_init 9 = .ok (.aload_n 0, 1) := by decide +kernel
theorem dX0_init_10 : decode cX0_init 10 = .ok (.iload_n 2, 1) := by decide +kernel
theorem dX0_init_11 : decode cX0_init 11 = .ok (.putfield 15, 3) := by decide +kernel
theorem dX0_init_14 : decode cX0_init 14 = .ok (.aload_n 0, 1) := by decide +kernel
theorem dX0_init_15 : decode cX0_init 15 = .ok (.iload_n 3, 1) := by decide +kernel
theorem dX0_init_16 : decode cX0_init 16 = .ok (.putfield 19, 3) := by decide +kernel
theorem dX0_init_19 : decode cX0_init 19 = .ok (.return_, 1) := by decide +kernel
set_option maxRecDepth 20000 in
theorem ggX0_number_X4_tell : GoodIn wsX0_number wsX4_tell := goodIn_r _ [7, 8, 9, 10, 11, 12, 13, 14, 15, 16, 17, 18, 19, 20, 24, 25, 26, 27, 28, 29, 30, 31, 32, 33, 34, 35, 36, 37, 38, 39, 40, 41, 42, 43, 44, 45, 46, 47, 48] (by decide +kernel) (by decide +kernel)
set_option maxRecDepth 20000 in
theorem gX0_number_X4_tell_n22 : GoodIn wsX0_number (wsX4_tell) := ggX0_number_X4_tell
theorem dX0_number_0 : decode cX0_number 0 = .ok (.aload_n 1, 1) := by decide +kernel
theorem dX0_number_1 : decode cX0_number 1 = .ok (.iload_n 2, 1) := by decide +kernel
theorem dX0_number_2 : decode cX0_number 2 = .ok (.invokevirtual 22, 3) := by decide +kernel
theorem dX0_number_5 : decode cX0_number 5 = .ok (.istore_n 3, 1) := by decide +kernel
theorem dX0_number_6 : decode cX0_number 6 = .ok (.aload_n 1, 1) := by decide +kernel
theorem dX0_number_7 : decode cX0_number 7 = .ok (.aload_n 0, 1) := by decide +kernel
theorem dX0_number_8 : decode cX0_number 8 = .ok (.getfield 9, 3) := by decide +kernel
theorem dX0_number_11 : decode cX0_number 11 = .ok (.if_acmp .ne 20, 3) := by decide +kernel
theorem dX0_number_14 : decode cX0_number 14 = .ok (.iload_n 2, 1) := by decide +kernel
theorem dX0_number_15 : decode cX0_number 15 = .ok (.aload_n 0, 1) := by decide +kernel
theorem dX0_number_16 : decode cX0_number 16 = .ok (.getfield 15, 3) := by decide +kernel
theorem dX0_number_19 : decode cX0_number 19 = .ok (.if_icmp .ne 12, 3) := by decide +kernel
theorem dX0_number_22 : decode cX0_number 22 = .ok (.iload_n 3, 1) := by decide +kernel
theorem dX0_number_23 : decode cX0_number 23 = .ok (.aload_n 0, 1) := by decide +kernel
theorem dX0_number_24 : decode cX0_number 24 = .ok (.getfield 19, 3) := by decide +kernel
theorem dX0_number_27 : decode cX0_number 27 = .ok (.ixor, 1) := by decide +kernel
theorem dX0_number_28 : decode cX0_number 28 = .ok (.goto 4, 3) := by decide +kernel
theorem dX0_number_31 : decode cX0_number 31 = .ok (.iload_n 3, 1) := by decide +kernel
theorem dX0_number_32 : decode cX0_number 32 = .ok (.ireturn, 1) := by decide +kernel
set_option maxRecDepth 20000 in
theorem ggX0_mayHaveCabin_X0_number : GoodIn wsX0_mayHaveCabin wsX0_number := goodIn_r _ [5, 6, 7, 8, 9, 10, 11, 12, 13, 14, 15, 16, 17, 18, 19, 20, 21, 22, 23, 24, 25, 26, 27, 28, 29, 30, 31, 32, 33, 34, 35, 36, 37, 38, 39, 40, 41, 42, 43, 44, 45, 46, 47, 48, 49, 50, 51, 52, 53] (by decide +kernel) (by decide +kernel)
set_option maxRecDepth 20000 in
theorem gX0_mayHaveCabin_X0_number : GoodIn wsX0_mayHaveCabin (wsV RX0 28 RX0 yX0_number wsX0_number) := goodIn_app (goodIn_of _ (by decide +kernel)) ggX0_mayHaveCabin_X0_number
theorem dX0_mayHaveCabin_0 : decode cX0_mayHaveCabin 0 = .ok (.aload_n 0, 1) := by decide +kernel
theorem dX0_mayHaveCabin_1 : decode cX0_mayHaveCabin 1 = .ok (.aload_n 1, 1) := by decide +kernel
theorem dX0_mayHaveCabin_2 : decode cX0_mayHaveCabin 2 = .ok (.iconst 4, 1) := by decide +kernel
theorem dX0_mayHaveCabin_3 : decode cX0_mayHaveCabin 3 = .ok (.invokevirtual 28, 3) := by decide +kernel
theorem dX0_mayHaveCabin_6 : decode cX0_mayHaveCabin 6 = .ok (.istore_n 2, 1) := by decide +kernel
theorem dX0_mayHaveCabin_7 : decode cX0_mayHaveCabin 7 = .ok (.iload_n 2, 1) := by decide +kernel
theorem dX0_mayHaveCabin_8 : decode cX0_mayHaveCabin 8 = .ok (.iconst 3, 1) := by decide +kernel
theorem dX0_mayHaveCabin_9 : decode cX0_mayHaveCabin 9 = .ok (.if_icmp .eq 9, 3) := by decide +kernel
theorem dX0_mayHaveCabin_12 : decode cX0_mayHaveCabin 12 = .ok (.iload_n 2, 1) := by decide +kernel
theorem dX0_mayHaveCabin_13 : decode cX0_mayHaveCabin 13 = .ok (.bipush 6, 2) := by decide +kernel
theorem dX0_mayHaveCabin_15 : decode cX0_mayHaveCabin 15 = .ok (.if_icmp .ne 7, 3) := by decide +kernel
theorem dX0_mayHaveCabin_18 : decode cX0_mayHaveCabin 18 = .ok (.iconst 1, 1) := by decide +kernel
theorem dX0_mayHaveCabin_19 : decode cX0_mayHaveCabin 19 = .ok (.goto 4, 3) := by decide +kernel
theorem dX0_mayHaveCabin_22 : decode cX0_mayHaveCabin 22 = .ok (.iconst 0, 1) := by decide +kernel
theorem dX0_mayHaveCabin_23 : decode cX0_mayHaveCabin 23 = .ok (.ireturn, 1) := by decide +kernel
theorem dX1_init_0 : decode cX1_init 0 = .ok (.aload_n 0, 1) := by decide +kernel
theorem dX1_init_1 : decode cX1_init 1 = .ok (.invokespecial 1, 3) := by decide +kernel
theorem dX1_init_4 : decode cX1_init 4 = .ok (.aload_n 0, 1) := by decide +kernel
theorem dX1_init_5 : decode cX1_init 5 = .ok (.aload_n 1, 1) := by decide +kernel
theorem dX1_init_6 : decode cX1_init 6 = .ok (.putfield 7, 3) := by decide +kernel
theorem dX1_init_9 : decode cX1_init 9 = .ok (.aload_n 0, 1) := by decide +kernel
theorem dX1_init_10 : decode cX1_init 10 = .ok (.iload_n 2, 1) := by decide +kernel
theorem dX1_init_11 : decode cX1_init 11 = .ok (.putfield 13, 3) := by decide +kernel
theorem dX1_init_14 : decode cX1_init 14 = .ok (.return_, 1) := by decide +kernel
theorem dX2_init_0 : decode cX2_init 0 = .ok (.aload_n 0, 1) := by decide +kernel
theorem dX2_init_1 : decode cX2_init 1 = .ok (.invokespecial 3, 3) := by decide +kernel
theorem dX2_init_4 : decode cX2_init 4 = .ok (.aload_n 0, 1) := by decide +kernel
theorem dX2_init_5 : decode cX2_init 5 = .ok (.iconst 0, 1) := by decide +kernel
theorem dX2_init_6 : decode cX2_init 6 = .ok (.putfield 9, 3) := by decide +kernel
theorem dX2_init_9 : decode cX2_init 9 = .ok (.aload_n 0, 1) := by decide +kernel
theorem dX2_init_10 : decode cX2_init 10 = .ok (.iconst (-1), 1) := by decide +kernel
theorem dX2_init_11 : decode cX2_init 11 = .ok (.putfield 15, 3) := by decide +kernel
theorem dX2_init_14 : decode cX2_init 14 = .ok (.aload_n 0, 1) := by decide +kernel
theorem dX2_init_15 : decode cX2_init 15 = .ok (.iload_n 1, 1) := by decide +kernel
theorem dX2_init_16 : decode cX2_init 16 = .ok (.putfield 18, 3) := by decide +kernel
theorem dX2_init_19 : decode cX2_init 19 = .ok (.aload_n 0, 1) := by decide +kernel
theorem dX2_init_20 : decode cX2_init 20 = .ok (.aload_n 2, 1) := by decide +kernel
theorem dX2_init_21 : decode cX2_init 21 = .ok (.putfield 21, 3) := by decide +kernel
theorem dX2_init_24 : decode cX2_init 24 = .ok (.aload_n 0, 1) := by decide +kernel
theorem dX2_init_25 : decode cX2_init 25 = .ok (.iload_n 3, 1) := by decide +kernel
theorem dX2_init_26 : decode cX2_init 26 = .ok (.putfield 25, 3) := by decide +kernel
theorem dX2_init_29 : decode cX2_init 29 = .ok (.aload_n 0, 1) := by decide +kernel
theorem dX2_init_30 : decode cX2_init 30 = .ok (.iload 4, 2) := by decide +kernel
theorem dX2_init_32 : decode cX2_init 32 = .ok (.putfield 28, 3) := by decide +kernel
theorem dX2_init_35 : decode cX2_init 35 = .ok (.return_, 1) := by decide +kernel
theorem dX2_isPlannedOrOpen_0 : decode cX2_isPlannedOrOpen 0 = .ok (.aload_n 0, 1) := by decide +kernel
theorem dX2_isPlannedOrOpen_1 : decode cX2_isPlannedOrOpen 1 = .ok (.getfield 9, 3) := by decide +kernel
theorem dX2_isPlannedOrOpen_4 : decode cX2_isPlannedOrOpen 4 = .ok (.ifCond .eq 11, 3) := by decide +kernel
theorem dX2_isPlannedOrOpen_7 : decode cX2_isPlannedOrOpen 7 = .ok (.aload_n 0, 1) := by decide +kernel
theorem dX2_isPlannedOrOpen_8 : decode cX2_isPlannedOrOpen 8 = .ok (.getfield 9, 3) := by decide +kernel
theorem dX2_isPlannedOrOpen_11 : decode cX2_isPlannedOrOpen 11 = .ok (.iconst 1, 1) := by decide +kernel
theorem dX2_isPlannedOrOpen_12 : decode cX2_isPlannedOrOpen 12 = .ok (.if_icmp .ne 7, 3) := by decide +kernel
theorem dX2_isPlannedOrOpen_15 : decode cX2_isPlannedOrOpen 15 = .ok (.iconst 1, 1) := by decide +kernel
theorem dX2_isPlannedOrOpen_16 : decode cX2_isPlannedOrOpen 16 = .ok (.goto 4, 3) := by decide +kernel
theorem dX2_isPlannedOrOpen_19 : decode cX2_isPlannedOrOpen 19 = .ok (.iconst 0, 1) := by decide +kernel
theorem dX2_isPlannedOrOpen_20 : decode cX2_isPlannedOrOpen 20 = .ok (.ireturn, 1) := by decide +kernel
set_option maxRecDepth 20000 in
theorem ggX2_takesTickets_X2_isPlannedOrOpen : GoodIn wsX2_takesTickets wsX2_isPlannedOrOpen := goodIn_r _ [6, 7, 8, 9, 10, 11, 12, 13, 14, 15, 16] (by decide +kernel) (by decide +kernel)
set_option maxRecDepth 20000 in
theorem gX2_takesTickets_X2_isPlannedOrOpen : GoodIn wsX2_takesTickets (wsV RX2 31 RX2 yX2_isPlannedOrOpen wsX2_isPlannedOrOpen) := goodIn_app (goodIn_of _ (by decide +kernel)) ggX2_takesTickets_X2_isPlannedOrOpen
theorem dX2_takesTickets_0 : decode cX2_takesTickets 0 = .ok (.aload_n 0, 1) := by decide +kernel
theorem dX2_takesTickets_1 : decode cX2_takesTickets 1 = .ok (.invokevirtual 31, 3) := by decide +kernel
theorem dX2_takesTickets_4 : decode cX2_takesTickets 4 = .ok (.ifCond .eq 15, 3) := by decide +kernel
theorem dX2_takesTickets_7 : decode cX2_takesTickets 7 = .ok (.aload_n 0, 1) := by decide +kernel
theorem dX2_takesTickets_8 : decode cX2_takesTickets 8 = .ok (.getfield 15, 3) := by decide +kernel
theorem dX2_takesTickets_11 : decode cX2_takesTickets 11 = .ok (.iconst (-1), 1) := by decide +kernel
theorem dX2_takesTickets_12 : decode cX2_takesTickets 12 = .ok (.if_icmp .ne 7, 3) := by decide +kernel
theorem dX2_takesTickets_15 : decode cX2_takesTickets 15 = .ok (.iconst 1, 1) := by decide +kernel
theorem dX2_takesTickets_16 : decode cX2_takesTickets 16 = .ok (.goto 4, 3) := by decide +kernel
theorem dX2_takesTickets_19 : decode cX2_takesTickets 19 = .ok (.iconst 0, 1) := by decide +kernel
theorem dX2_takesTickets_20 : decode cX2_takesTickets 20 = .ok (.ireturn, 1) := by decide +kernel
theorem dX3_init_0 : decode cX3_init 0 = .ok (.aload_n 0, 1) := by decide +kernel
theorem dX3_init_1 : decode cX3_init 1 = .ok (.invokespecial 3, 3) := by decide +kernel
theorem dX3_init_4 : decode cX3_init 4 = .ok (.aload_n 0, 1) := by decide +kernel
theorem dX3_init_5 : decode cX3_init 5 = .ok (.iload_n 1, 1) := by decide +kernel
theorem dX3_init_6 : decode cX3_init 6 = .ok (.putfield 9, 3) := by decide +kernel
theorem dX3_init_9 : decode cX3_init 9 = .ok (.aload_n 0, 1) := by decide +kernel
theorem dX3_init_10 : decode cX3_init 10 = .ok (.iload_n 2, 1) := by decide +kernel
theorem dX3_init_11 : decode cX3_init 11 = .ok (.putfield 15, 3) := by decide +kernel
theorem dX3_init_14 : decode cX3_init 14 = .ok (.aload_n 0, 1) := by decide +kernel
theorem dX3_init_15 : decode cX3_init 15 = .ok (.iload_n 3, 1) := by decide +kernel
theorem dX3_init_16 : decode cX3_init 16 = .ok (.putfield 18, 3) := by decide +kernel
theorem dX3_init_19 : decode cX3_init 19 = .ok (.aload_n 0, 1) := by decide +kernel
theorem dX3_init_20 : decode cX3_init 20 = .ok (.iload 4, 2) := by decide +kernel
theorem dX3_init_22 : decode cX3_init 22 = .ok (.putfield 21, 3) := by decide +kernel
theorem dX3_init_25 : decode cX3_init 25 = .ok (.aload_n 0, 1) := by decide +kernel
theorem dX3_init_26 : decode cX3_init 26 = .ok (.iload 5, 2) := by decide +kernel
theorem dX3_init_28 : decode cX3_init 28 = .ok (.putfield 24, 3) := by decide +kernel
theorem dX3_init_31 : decode cX3_init 31 = .ok (.aload_n 0, 1) := by decide +kernel
theorem dX3_init_32 : decode cX3_init 32 = .ok (.iload_n 2, 1) := by decide +kernel
theorem dX3_init_33 : decode cX3_init 33 = .ok (.iload_n 3, 1) := by decide +kernel
theorem dX3_init_34 : decode cX3_init 34 = .ok (.imul, 1) := by decide +kernel
theorem dX3_init_35 : decode cX3_init 35 = .ok (.anewarray 28, 3) := by decide +kernel
theorem dX3_init_38 : decode cX3_init 38 = .ok (.putfield 30, 3) := by decide +kernel
theorem dX3_init_41 : decode cX3_init 41 = .ok (.return_, 1) := by decide +kernel
theorem dX3_hasLane_0 : decode cX3_hasLane 0 = .ok (.iload_n 1, 1) := by decide +kernel
theorem dX3_hasLane_1 : decode cX3_hasLane 1 = .ok (.ifCond .lt 27, 3) := by decide +kernel
theorem dX3_hasLane_4 : decode cX3_hasLane 4 = .ok (.iload_n 1, 1) := by decide +kernel
theorem dX3_hasLane_5 : decode cX3_hasLane 5 = .ok (.aload_n 0, 1) := by decide +kernel
theorem dX3_hasLane_6 : decode cX3_hasLane 6 = .ok (.getfield 15, 3) := by decide +kernel
theorem dX3_hasLane_9 : decode cX3_hasLane 9 = .ok (.if_icmp .ge 19, 3) := by decide +kernel
theorem dX3_hasLane_12 : decode cX3_hasLane 12 = .ok (.iload_n 2, 1) := by decide +kernel
theorem dX3_hasLane_13 : decode cX3_hasLane 13 = .ok (.ifCond .lt 15, 3) := by decide +kernel
theorem dX3_hasLane_16 : decode cX3_hasLane 16 = .ok (.iload_n 2, 1) := by decide +kernel
theorem dX3_hasLane_17 : decode cX3_hasLane 17 = .ok (.aload_n 0, 1) := by decide +kernel
theorem dX3_hasLane_18 : decode cX3_hasLane 18 = .ok (.getfield 18, 3) := by decide +kernel
theorem dX3_hasLane_21 : decode cX3_hasLane 21 = .ok (.if_icmp .ge 7, 3) := by decide +kernel
theorem dX3_hasLane_24 : decode cX3_hasLane 24 = .ok (.iconst 1, 1) := by decide +kernel
theorem dX3_hasLane_25 : decode cX3_hasLane 25 = .ok (.goto 4, 3) := by decide +kernel
theorem dX3_hasLane_28 : decode cX3_hasLane 28 = .ok (.iconst 0, 1) := by decide +kernel
theorem dX3_hasLane_29 : decode cX3_hasLane 29 = .ok (.ireturn, 1) := by decide +kernel
set_option maxRecDepth 20000 in
theorem ggX3_nearestBow_X3_hasLane : GoodIn wsX3_nearestBow wsX3_hasLane := goodIn_r _ [7, 8, 2, 9, 10, 11, 12, 13, 14, 15, 16] (by decide +kernel) (by decide +kernel)
set_option maxRecDepth 20000 in
theorem gX3_nearestBow_X3_hasLane : GoodIn wsX3_nearestBow (wsV RX3 34 RX3 yX3_hasLane wsX3_hasLane) := goodIn_app (goodIn_of _ (by decide +kernel)) ggX3_nearestBow_X3_hasLane
theorem dX3_nearestBow_0 : decode cX3_nearestBow 0 = .ok (.aload_n 0, 1) := by decide +kernel
theorem dX3_nearestBow_1 : decode cX3_nearestBow 1 = .ok (.iload_n 1, 1) := by decide +kernel
theorem dX3_nearestBow_2 : decode cX3_nearestBow 2 = .ok (.iload_n 2, 1) := by decide +kernel
theorem dX3_nearestBow_3 : decode cX3_nearestBow 3 = .ok (.invokevirtual 34, 3) := by decide +kernel
theorem dX3_nearestBow_6 : decode cX3_nearestBow 6 = .ok (.ifCond .eq 19, 3) := by decide +kernel
theorem dX3_nearestBow_9 : decode cX3_nearestBow 9 = .ok (.aload_n 0, 1) := by decide +kernel
theorem dX3_nearestBow_10 : decode cX3_nearestBow 10 = .ok (.getfield 30, 3) := by decide +kernel
theorem dX3_nearestBow_13 : decode cX3_nearestBow 13 = .ok (.iload_n 1, 1) := by decide +kernel
theorem dX3_nearestBow_14 : decode cX3_nearestBow 14 = .ok (.aload_n 0, 1) := by decide +kernel
theorem dX3_nearestBow_15 : decode cX3_nearestBow 15 = .ok (.getfield 18, 3) := by decide +kernel
theorem dX3_nearestBow_18 : decode cX3_nearestBow 18 = .ok (.imul, 1) := by decide +kernel
theorem dX3_nearestBow_19 : decode cX3_nearestBow 19 = .ok (.iload_n 2, 1) := by decide +kernel
theorem dX3_nearestBow_20 : decode cX3_nearestBow 20 = .ok (.iadd, 1) := by decide +kernel
theorem dX3_nearestBow_21 : decode cX3_nearestBow 21 = .ok (.aaload, 1) := by decide +kernel
theorem dX3_nearestBow_22 : decode cX3_nearestBow 22 = .ok (.goto 4, 3) := by decide +kernel
theorem dX3_nearestBow_25 : decode cX3_nearestBow 25 = .ok (.aconst_null, 1) := by decide +kernel
theorem dX3_nearestBow_26 : decode cX3_nearestBow 26 = .ok (.areturn, 1) := by decide +kernel
set_option maxRecDepth 20000 in
theorem ggX3_freePlaces_X3_nearestBow : GoodIn wsX3_freePlaces wsX3_nearestBow := goodIn_r _ [6, 7, 8, 9, 10, 11, 5, 12, 13, 14, 15, 16, 17, 18, 19, 20, 21] (by decide +kernel) (by decide +kernel)
set_option maxRecDepth 20000 in
theorem gX3_freePlaces_X3_nearestBow : GoodIn wsX3_freePlaces (wsV RX3 38 RX3 yX3_nearestBow wsX3_nearestBow) := goodIn_app (goodIn_of _ (by decide +kernel)) ggX3_freePlaces_X3_nearestBow
theorem dX3_freePlaces_0 : decode cX3_freePlaces 0 = .ok (.aload_n 0, 1) := by decide +kernel
theorem dX3_freePlaces_1 : decode cX3_freePlaces 1 = .ok (.getfield 21, 3) := by decide +kernel
theorem dX3_freePlaces_4 : decode cX3_freePlaces 4 = .ok (.istore_n 3, 1) := by decide +kernel
theorem dX3_freePlaces_5 : decode cX3_freePlaces 5 = .ok (.aload_n 0, 1) := by decide +kernel
theorem dX3_freePlaces_6 : decode cX3_freePlaces 6 = .ok (.iload_n 1, 1) := by decide +kernel
theorem dX3_freePlaces_7 : decode cX3_freePlaces 7 = .ok (.iload_n 2, 1) := by decide +kernel
theorem dX3_freePlaces_8 : decode cX3_freePlaces 8 = .ok (.invokevirtual 38, 3) := by decide +kernel
theorem dX3_freePlaces_11 : decode cX3_freePlaces 11 = .ok (.astore 4, 2) := by decide +kernel
theorem dX3_freePlaces_13 : decode cX3_freePlaces 13 = .ok (.aload 4, 2) := by decide +kernel
theorem dX3_freePlaces_15 : decode cX3_freePlaces 15 = .ok (.ifnull 21, 3) := by decide +kernel
theorem dX3_freePlaces_18 : decode cX3_freePlaces 18 = .ok (.iload_n 3, 1) := by decide +kernel
theorem dX3_freePlaces_19 : decode cX3_freePlaces 19 = .ok (.aload 4, 2) := by decide +kernel
theorem dX3_freePlaces_21 : decode cX3_freePlaces 21 = .ok (.getfield 42, 3) := by decide +kernel
theorem dX3_freePlaces_24 : decode cX3_freePlaces 24 = .ok (.isub, 1) := by decide +kernel
theorem dX3_freePlaces_25 : decode cX3_freePlaces 25 = .ok (.istore_n 3, 1) := by decide +kernel
theorem dX3_freePlaces_26 : decode cX3_freePlaces 26 = .ok (.aload 4, 2) := by decide +kernel
theorem dX3_freePlaces_28 : decode cX3_freePlaces 28 = .ok (.getfield 43, 3) := by decide +kernel
theorem dX3_freePlaces_31 : decode cX3_freePlaces 31 = .ok (.astore 4, 2) := by decide +kernel
theorem dX3_freePlaces_33 : decode cX3_freePlaces 33 = .ok (.goto (-20), 3) := by decide +kernel
theorem dX3_freePlaces_36 : decode cX3_freePlaces 36 = .ok (.iload_n 3, 1) := by decide +kernel
theorem dX3_freePlaces_37 : decode cX3_freePlaces 37 = .ok (.ireturn, 1) := by decide +kernel
set_option maxRecDepth 20000 in
theorem ggX3_longestGap_X3_nearestBow : GoodIn wsX3_longestGap wsX3_nearestBow := goodIn_r _ [10, 11, 12, 13, 14, 15, 9, 16, 17, 34, 35, 36, 37, 38, 39, 40, 41] (by decide +kernel) (by decide +kernel)
set_option maxRecDepth 20000 in
theorem gX3_longestGap_X3_nearestBow : GoodIn wsX3_longestGap (wsV RX3 38 RX3 yX3_nearestBow wsX3_nearestBow) := goodIn_app (goodIn_of _ (by decide +kernel)) ggX3_longestGap_X3_nearestBow
theorem dX3_longestGap_0 : decode cX3_longestGap 0 = .ok (.iconst 0, 1) := by decide +kernel
theorem dX3_longestGap_1 : decode cX3_longestGap 1 = .ok (.istore_n 3, 1) := by decide +kernel
theorem dX3_longestGap_2 : decode cX3_longestGap 2 = .ok (.iconst 0, 1) := by decide +kernel
theorem dX3_longestGap_3 : decode cX3_longestGap 3 = .ok (.istore 4, 2) := by decide +kernel
theorem dX3_longestGap_5 : decode cX3_longestGap 5 = .ok (.aload_n 0, 1) := by decide +kernel
theorem dX3_longestGap_6 : decode cX3_longestGap 6 = .ok (.iload_n 1, 1) := by decide +kernel
theorem dX3_longestGap_7 : decode cX3_longestGap 7 = .ok (.iload_n 2, 1) := by decide +kernel
theorem dX3_longestGap_8 : decode cX3_longestGap 8 = .ok (.invokevirtual 38, 3) := by decide +kernel
theorem dX3_longestGap_11 : decode cX3_longestGap 11 = .ok (.astore 5, 2) := by decide +kernel
theorem dX3_longestGap_13 : decode cX3_longestGap 13 = .ok (.aload 5, 2) := by decide +kernel
theorem dX3_longestGap_15 : decode cX3_longestGap 15 = .ok (.ifnull 39, 3) := by decide +kernel
theorem dX3_longestGap_18 : decode cX3_longestGap 18 = .ok (.iload_n 3, 1) := by decide +kernel
theorem dX3_longestGap_19 : decode cX3_longestGap 19 = .ok (.aload 5, 2) := by decide +kernel
theorem dX3_longestGap_21 : decode cX3_longestGap 21 = .ok (.getfield 47, 3) := by decide +kernel
theorem dX3_longestGap_24 : decode cX3_longestGap 24 = .ok (.iload 4, 2) := by decide +kernel
theorem dX3_longestGap_26 : decode cX3_longestGap 26 = .ok (.isub, 1) := by decide +kernel
theorem dX3_longestGap_27 : decode cX3_longestGap 27 = .ok (.invokestatic 50, 3) := by decide +kernel
theorem dX3_longestGap_30 : decode cX3_longestGap 30 = .ok (.istore_n 3, 1) := by decide +kernel
theorem dX3_longestGap_31 : decode cX3_longestGap 31 = .ok (.aload 5, 2) := by decide +kernel
theorem dX3_longestGap_33 : decode cX3_longestGap 33 = .ok (.getfield 47, 3) := by decide +kernel
theorem dX3_longestGap_36 : decode cX3_longestGap 36 = .ok (.aload 5, 2) := by decide +kernel
theorem dX3_longestGap_38 : decode cX3_longestGap 38 = .ok (.getfield 42, 3) := by decide +kernel
theorem dX3_longestGap_41 : decode cX3_longestGap 41 = .ok (.iadd, 1) := by decide +kernel
theorem dX3_longestGap_42 : decode cX3_longestGap 42 = .ok (.istore 4, 2) := by decide +kernel
theorem dX3_longestGap_44 : decode cX3_longestGap 44 = .ok (.aload 5, 2) := by decide +kernel
theorem dX3_longestGap_46 : decode cX3_longestGap 46 = .ok (.getfield 43, 3) := by decide +kernel
theorem dX3_longestGap_49 : decode cX3_longestGap 49 = .ok (.astore 5, 2) := by decide +kernel
theorem dX3_longestGap_51 : decode cX3_longestGap 51 = .ok (.goto (-38), 3) := by decide +kernel
theorem dX3_longestGap_54 : decode cX3_longestGap 54 = .ok (.iload_n 3, 1) := by decide +kernel
theorem dX3_longestGap_55 : decode cX3_longestGap 55 = .ok (.aload_n 0, 1) := by decide +kernel
theorem dX3_longestGap_56 : decode cX3_longestGap 56 = .ok (.getfield 21, 3) := by decide +kernel
theorem dX3_longestGap_59 : decode cX3_longestGap 59 = .ok (.iload 4, 2) := by decide +kernel
theorem dX3_longestGap_61 : decode cX3_longestGap 61 = .ok (.isub, 1) := by decide +kernel
theorem dX3_longestGap_62 : decode cX3_longestGap 62 = .ok (.invokestatic 50, 3) := by decide +kernel
theorem dX3_longestGap_65 : decode cX3_longestGap 65 = .ok (.ireturn, 1) := by decide +kernel
set_option maxRecDepth 20000 in
theorem ggX3_firstGap_X3_nearestBow : GoodIn wsX3_firstGap wsX3_nearestBow := goodIn_r _ [6, 7, 8, 9, 10, 11, 5, 12, 13, 30, 31, 32, 33, 34, 35, 36, 37] (by decide +kernel) (by decide +kernel)
set_option maxRecDepth 20000 in
theorem gX3_firstGap_X3_nearestBow : GoodIn wsX3_firstGap (wsV RX3 38 RX3 yX3_nearestBow wsX3_nearestBow) := goodIn_app (goodIn_of _ (by decide +kernel)) ggX3_firstGap_X3_nearestBow
theorem dX3_firstGap_0 : decode cX3_firstGap 0 = .ok (.iconst 0, 1) := by decide +kernel
theorem dX3_firstGap_1 : decode cX3_firstGap 1 = .ok (.istore 4, 2) := by decide +kernel
theorem dX3_firstGap_3 : decode cX3_firstGap 3 = .ok (.aload_n 0, 1) := by decide +kernel
theorem dX3_firstGap_4 : decode cX3_firstGap 4 = .ok (.iload_n 1, 1) := by decide +kernel
theorem dX3_firstGap_5 : decode cX3_firstGap 5 = .ok (.iload_n 2, 1) := by decide +kernel
theorem dX3_firstGap_6 : decode cX3_firstGap 6 = .ok (.invokevirtual 38, 3) := by decide +kernel
theorem dX3_firstGap_9 : decode cX3_firstGap 9 = .ok (.astore 5, 2) := by decide +kernel
theorem dX3_firstGap_11 : decode cX3_firstGap 11 = .ok (.aload 5, 2) := by decide +kernel
theorem dX3_firstGap_13 : decode cX3_firstGap 13 = .ok (.ifnull 41, 3) := by decide +kernel
theorem dX3_firstGap_16 : decode cX3_firstGap 16 = .ok (.aload 5, 2) := by decide +kernel
theorem dX3_firstGap_18 : decode cX3_firstGap 18 = .ok (.getfield 47, 3) := by decide +kernel
theorem dX3_firstGap_21 : decode cX3_firstGap 21 = .ok (.iload 4, 2) := by decide +kernel
theorem dX3_firstGap_23 : decode cX3_firstGap 23 = .ok (.isub, 1) := by decide +kernel
theorem dX3_firstGap_24 : decode cX3_firstGap 24 = .ok (.iload_n 3, 1) := by decide +kernel
theorem dX3_firstGap_25 : decode cX3_firstGap 25 = .ok (.if_icmp .lt 6, 3) := by decide +kernel
theorem dX3_firstGap_28 : decode cX3_firstGap 28 = .ok (.iload 4, 2) := by decide +kernel
theorem dX3_firstGap_30 : decode cX3_firstGap 30 = .ok (.ireturn, 1) := by decide +kernel
theorem dX3_firstGap_31 : decode cX3_firstGap 31 = .ok (.aload 5, 2) := by decide +kernel
theorem dX3_firstGap_33 : decode cX3_firstGap 33 = .ok (.getfield 47, 3) := by decide +kernel
theorem dX3_firstGap_36 : decode cX3_firstGap 36 = .ok (.aload 5, 2) := by decide +kernel
theorem dX3_firstGap_38 : decode cX3_firstGap 38 = .ok (.getfield 42, 3) := by decide +kernel
theorem dX3_firstGap_41 : decode cX3_firstGap 41 = .ok (.iadd, 1) := by decide +kernel
theorem dX3_firstGap_42 : decode cX3_firstGap 42 = .ok (.istore 4, 2) := by decide +kernel
theorem dX3_firstGap_44 : decode cX3_firstGap 44 = .ok (.aload 5, 2) := by decide +kernel
theorem dX3_firstGap_46 : decode cX3_firstGap 46 = .ok (.getfield 43, 3) := by decide +kernel
theorem dX3_firstGap_49 : decode cX3_firstGap 49 = .ok (.astore 5, 2) := by decide +kernel
theorem dX3_firstGap_51 : decode cX3_firstGap 51 = .ok (.goto (-40), 3) := by decide +kernel
theorem dX3_firstGap_54 : decode cX3_firstGap 54 = .ok (.aload_n 0, 1) := by decide +kernel
theorem dX3_firstGap_55 : decode cX3_firstGap 55 = .ok (.getfield 21, 3) := by decide +kernel
theorem dX3_firstGap_58 : decode cX3_firstGap 58 = .ok (.iload 4, 2) := by decide +kernel
theorem dX3_firstGap_60 : decode cX3_firstGap 60 = .ok (.isub, 1) := by decide +kernel
theorem dX3_firstGap_61 : decode cX3_firstGap 61 = .ok (.iload_n 3, 1) := by decide +kernel
theorem dX3_firstGap_62 : decode cX3_firstGap 62 = .ok (.if_icmp .lt 8, 3) := by decide +kernel
theorem dX3_firstGap_65 : decode cX3_firstGap 65 = .ok (.iload 4, 2) := by decide +kernel
theorem dX3_firstGap_67 : decode cX3_firstGap 67 = .ok (.goto 4, 3) := by decide +kernel
theorem dX3_firstGap_70 : decode cX3_firstGap 70 = .ok (.iconst (-1), 1) := by decide +kernel
theorem dX3_firstGap_71 : decode cX3_firstGap 71 = .ok (.ireturn, 1) := by decide +kernel
set_option maxRecDepth 20000 in
theorem ggX3_mayStand_X3_tallStandsUnder : GoodIn wsX3_mayStand wsX3_tallStandsUnder := goodIn_r _ [6, 7, 8, 9, 5, 10, 11, 12, 13, 14, 15, 16, 17, 30, 31, 32, 33, 34, 35, 36, 37, 38, 39, 40, 41, 42, 43, 44, 45, 22, 23, 24, 25, 26, 27, 28, 29] (by decide +kernel) (by decide +kernel)
set_option maxRecDepth 20000 in
theorem gX3_mayStand_X3_tallStandsUnder : GoodIn wsX3_mayStand (wsV RX3 56 RX3 yX3_tallStandsUnder wsX3_tallStandsUnder) := goodIn_app (goodIn_of _ (by decide +kernel)) ggX3_mayStand_X3_tallStandsUnder
set_option maxRecDepth 20000 in
theorem ggX3_mayStand_X3_somethingOnDeckOne : GoodIn wsX3_mayStand wsX3_somethingOnDeckOne := goodIn_r _ [21, 12, 7, 8, 9, 5, 10, 11, 13, 14, 15, 16, 17, 22, 23, 24, 25, 26, 27, 28, 29] (by decide +kernel) (by decide +kernel)
set_option maxRecDepth 20000 in
theorem gX3_mayStand_X3_somethingOnDeckOne : GoodIn wsX3_mayStand (wsV RX3 60 RX3 yX3_somethingOnDeckOne wsX3_somethingOnDeckOne) := goodIn_app (goodIn_of _ (by decide +kernel)) ggX3_mayStand_X3_somethingOnDeckOne
theorem dX3_mayStand_0 : decode cX3_mayStand 0 = .ok (.iload_n 3, 1) := by decide +kernel
theorem dX3_mayStand_1 : decode cX3_mayStand 1 = .ok (.iconst 2, 1) := by decide +kernel
theorem dX3_mayStand_2 : decode cX3_mayStand 2 = .ok (.if_icmp .ne 7, 3) := by decide +kernel
theorem dX3_mayStand_5 : decode cX3_mayStand 5 = .ok (.iload_n 1, 1) := by decide +kernel
theorem dX3_mayStand_6 : decode cX3_mayStand 6 = .ok (.ifCond .gt 13, 3) := by decide +kernel
theorem dX3_mayStand_9 : decode cX3_mayStand 9 = .ok (.iload_n 3, 1) := by decide +kernel
theorem dX3_mayStand_10 : decode cX3_mayStand 10 = .ok (.iconst 1, 1) := by decide +kernel
theorem dX3_mayStand_11 : decode cX3_mayStand 11 = .ok (.if_icmp .ne 10, 3) := by decide +kernel
theorem dX3_mayStand_14 : decode cX3_mayStand 14 = .ok (.iload_n 1, 1) := by decide +kernel
theorem dX3_mayStand_15 : decode cX3_mayStand 15 = .ok (.iconst 1, 1) := by decide +kernel
theorem dX3_mayStand_16 : decode cX3_mayStand 16 = .ok (.if_icmp .le 5, 3) := by decide +kernel
theorem dX3_mayStand_19 : decode cX3_mayStand 19 = .ok (.iconst 0, 1) := by decide +kernel
theorem dX3_mayStand_20 : decode cX3_mayStand 20 = .ok (.ireturn, 1) := by decide +kernel
theorem dX3_mayStand_21 : decode cX3_mayStand 21 = .ok (.aload_n 0, 1) := by decide +kernel
theorem dX3_mayStand_22 : decode cX3_mayStand 22 = .ok (.getfield 24, 3) := by decide +kernel
theorem dX3_mayStand_25 : decode cX3_mayStand 25 = .ok (.ifCond .ne 5, 3) := by decide +kernel
theorem dX3_mayStand_28 : decode cX3_mayStand 28 = .ok (.iconst 1, 1) := by decide +kernel
theorem dX3_mayStand_29 : decode cX3_mayStand 29 = .ok (.ireturn, 1) := by decide +kernel
theorem dX3_mayStand_30 : decode cX3_mayStand 30 = .ok (.iload_n 1, 1) := by decide +kernel
theorem dX3_mayStand_31 : decode cX3_mayStand 31 = .ok (.iconst 1, 1) := by decide +kernel
theorem dX3_mayStand_32 : decode cX3_mayStand 32 = .ok (.if_icmp .ne 16, 3) := by decide +kernel
theorem dX3_mayStand_35 : decode cX3_mayStand 35 = .ok (.aload_n 0, 1) := by decide +kernel
theorem dX3_mayStand_36 : decode cX3_mayStand 36 = .ok (.invokevirtual 56, 3) := by decide +kernel
theorem dX3_mayStand_39 : decode cX3_mayStand 39 = .ok (.ifCond .ne 7, 3) := by decide +kernel
theorem dX3_mayStand_42 : decode cX3_mayStand 42 = .ok (.iconst 1, 1) := by decide +kernel
theorem dX3_mayStand_43 : decode cX3_mayStand 43 = .ok (.goto 4, 3) := by decide +kernel
theorem dX3_mayStand_46 : decode cX3_mayStand 46 = .ok (.iconst 0, 1) := by decide +kernel
theorem dX3_mayStand_47 : decode cX3_mayStand 47 = .ok (.ireturn, 1) := by decide +kernel
theorem dX3_mayStand_48 : decode cX3_mayStand 48 = .ok (.iload_n 1, 1) := by decide +kernel
theorem dX3_mayStand_49 : decode cX3_mayStand 49 = .ok (.ifCond .ne 17, 3) := by decide +kernel
theorem dX3_mayStand_52 : decode cX3_mayStand 52 = .ok (.iload_n 2, 1) := by decide +kernel
theorem dX3_mayStand_53 : decode cX3_mayStand 53 = .ok (.iconst 2, 1) := by decide +kernel
theorem dX3_mayStand_54 : decode cX3_mayStand 54 = .ok (.if_icmp .ge 12, 3) := by decide +kernel
theorem dX3_mayStand_57 : decode cX3_mayStand 57 = .ok (.iload_n 3, 1) := by decide +kernel
theorem dX3_mayStand_58 : decode cX3_mayStand 58 = .ok (.iconst 2, 1) := by decide +kernel
theorem dX3_mayStand_59 : decode cX3_mayStand 59 = .ok (.if_icmp .ne 7, 3) := by decide +kernel
theorem dX3_mayStand_62 : decode cX3_mayStand 62 = .ok (.iconst 1, 1) := by decide +kernel
theorem dX3_mayStand_63 : decode cX3_mayStand 63 = .ok (.goto 4, 3) := by decide +kernel
theorem dX3_mayStand_66 : decode cX3_mayStand 66 = .ok (.iconst 0, 1) := by decide +kernel
theorem dX3_mayStand_67 : decode cX3_mayStand 67 = .ok (.istore 4, 2) := by decide +kernel
theorem dX3_mayStand_69 : decode cX3_mayStand 69 = .ok (.iload 4, 2) := by decide +kernel
theorem dX3_mayStand_71 : decode cX3_mayStand 71 = .ok (.ifCond .eq 10, 3) := by decide +kernel
theorem dX3_mayStand_74 : decode cX3_mayStand 74 = .ok (.aload_n 0, 1) := by decide +kernel
theorem dX3_mayStand_75 : decode cX3_mayStand 75 = .ok (.invokevirtual 60, 3) := by decide +kernel
theorem dX3_mayStand_78 : decode cX3_mayStand 78 = .ok (.ifCond .ne 7, 3) := by decide +kernel
theorem dX3_mayStand_81 : decode cX3_mayStand 81 = .ok (.iconst 1, 1) := by decide +kernel
theorem dX3_mayStand_82 : decode cX3_mayStand 82 = .ok (.goto 4, 3) := by decide +kernel
theorem dX3_mayStand_85 : decode cX3_mayStand 85 = .ok (.iconst 0, 1) := by decide +kernel
theorem dX3_mayStand_86 : decode cX3_mayStand 86 = .ok (.ireturn, 1) := by decide +kernel
set_option maxRecDepth 20000 in
theorem ggX3_somethingOnDeckOne_X3_nearestBow : GoodIn wsX3_somethingOnDeckOne wsX3_nearestBow := goodIn_r _ [6, 7, 1, 8, 9, 10, 5, 11, 12, 13, 14, 15, 16, 17, 18, 19, 20] (by decide +kernel) (by decide +kernel)
set_option maxRecDepth 20000 in
theorem gX3_somethingOnDeckOne_X3_nearestBow : GoodIn wsX3_somethingOnDeckOne (wsV RX3 38 RX3 yX3_nearestBow wsX3_nearestBow) := goodIn_app (goodIn_of _ (by decide +kernel)) ggX3_somethingOnDeckOne_X3_nearestBow
theorem dX3_somethingOnDeckOne_0 : decode cX3_somethingOnDeckOne 0 = .ok (.iconst 0, 1) := by decide +kernel
theorem dX3_somethingOnDeckOne_1 : decode cX3_somethingOnDeckOne 1 = .ok (.istore_n 1, 1) := by decide +kernel
theorem dX3_somethingOnDeckOne_2 : decode cX3_somethingOnDeckOne 2 = .ok (.iload_n 1, 1) := by decide +kernel
theorem dX3_somethingOnDeckOne_3 : decode cX3_somethingOnDeckOne 3 = .ok (.aload_n 0, 1) := by decide +kernel
theorem dX3_somethingOnDeckOne_4 : decode cX3_somethingOnDeckOne 4 = .ok (.getfield 18, 3) := by decide +kernel
theorem dX3_somethingOnDeckOne_7 : decode cX3_somethingOnDeckOne 7 = .ok (.if_icmp .ge 20, 3) := by decide +kernel
theorem dX3_somethingOnDeckOne_10 : decode cX3_somethingOnDeckOne 10 = .ok (.aload_n 0, 1) := by decide +kernel
theorem dX3_somethingOnDeckOne_11 : decode cX3_somethingOnDeckOne 11 = .ok (.iconst 1, 1) := by decide +kernel
theorem dX3_somethingOnDeckOne_12 : decode cX3_somethingOnDeckOne 12 = .ok (.iload_n 1, 1) := by decide +kernel
theorem dX3_somethingOnDeckOne_13 : decode cX3_somethingOnDeckOne 13 = .ok (.invokevirtual 38, 3) := by decide +kernel
theorem dX3_somethingOnDeckOne_16 : decode cX3_somethingOnDeckOne 16 = .ok (.ifnull 5, 3) := by decide +kernel
theorem dX3_somethingOnDeckOne_19 : decode cX3_somethingOnDeckOne 19 = .ok (.iconst 1, 1) := by decide +kernel
theorem dX3_somethingOnDeckOne_20 : decode cX3_somethingOnDeckOne 20 = .ok (.ireturn, 1) := by decide +kernel
theorem dX3_somethingOnDeckOne_21 : decode cX3_somethingOnDeckOne 21 = .ok (.iinc 1 1, 3) := by decide +kernel
theorem dX3_somethingOnDeckOne_24 : decode cX3_somethingOnDeckOne 24 = .ok (.goto (-22), 3) := by decide +kernel
theorem dX3_somethingOnDeckOne_27 : decode cX3_somethingOnDeckOne 27 = .ok (.iconst 0, 1) := by decide +kernel
theorem dX3_somethingOnDeckOne_28 : decode cX3_somethingOnDeckOne 28 = .ok (.ireturn, 1) := by decide +kernel
set_option maxRecDepth 20000 in
theorem ggX3_tallStandsUnder_X3_nearestBow : GoodIn wsX3_tallStandsUnder wsX3_nearestBow := goodIn_r _ [5, 6, 7, 8, 9, 10, 4, 11, 12, 29, 30, 31, 32, 33, 34, 35, 36] (by decide +kernel) (by decide +kernel)
set_option maxRecDepth 20000 in
theorem gX3_tallStandsUnder_X3_nearestBow : GoodIn wsX3_tallStandsUnder (wsV RX3 38 RX3 yX3_nearestBow wsX3_nearestBow) := goodIn_app (goodIn_of _ (by decide +kernel)) ggX3_tallStandsUnder_X3_nearestBow
theorem dX3_tallStandsUnder_0 : decode cX3_tallStandsUnder 0 = .ok (.iconst 0, 1) := by decide +kernel
theorem dX3_tallStandsUnder_1 : decode cX3_tallStandsUnder 1 = .ok (.istore_n 1, 1) := by decide +kernel
theorem dX3_tallStandsUnder_2 : decode cX3_tallStandsUnder 2 = .ok (.iload_n 1, 1) := by decide +kernel
theorem dX3_tallStandsUnder_3 : decode cX3_tallStandsUnder 3 = .ok (.iconst 2, 1) := by decide +kernel
theorem dX3_tallStandsUnder_4 : decode cX3_tallStandsUnder 4 = .ok (.if_icmp .ge 38, 3) := by decide +kernel
theorem dX3_tallStandsUnder_7 : decode cX3_tallStandsUnder 7 = .ok (.aload_n 0, 1) := by decide +kernel
theorem dX3_tallStandsUnder_8 : decode cX3_tallStandsUnder 8 = .ok (.iconst 0, 1) := by decide +kernel
theorem dX3_tallStandsUnder_9 : decode cX3_tallStandsUnder 9 = .ok (.iload_n 1, 1) := by decide +kernel
theorem dX3_tallStandsUnder_10 : decode cX3_tallStandsUnder 10 = .ok (.invokevirtual 38, 3) := by decide +kernel
theorem dX3_tallStandsUnder_13 : decode cX3_tallStandsUnder 13 = .ok (.astore_n 2, 1) := by decide +kernel
theorem dX3_tallStandsUnder_14 : decode cX3_tallStandsUnder 14 = .ok (.aload_n 2, 1) := by decide +kernel
theorem dX3_tallStandsUnder_15 : decode cX3_tallStandsUnder 15 = .ok (.ifnull 21, 3) := by decide +kernel
theorem dX3_tallStandsUnder_18 : decode cX3_tallStandsUnder 18 = .ok (.aload_n 2, 1) := by decide +kernel
theorem dX3_tallStandsUnder_19 : decode cX3_tallStandsUnder 19 = .ok (.getfield 63, 3) := by decide +kernel
theorem dX3_tallStandsUnder_22 : decode cX3_tallStandsUnder 22 = .ok (.iconst 2, 1) := by decide +kernel
theorem dX3_tallStandsUnder_23 : decode cX3_tallStandsUnder 23 = .ok (.if_icmp .ne 5, 3) := by decide +kernel
theorem dX3_tallStandsUnder_26 : decode cX3_tallStandsUnder 26 = .ok (.iconst 1, 1) := by decide +kernel
theorem dX3_tallStandsUnder_27 : decode cX3_tallStandsUnder 27 = .ok (.ireturn, 1) := by decide +kernel
theorem dX3_tallStandsUnder_28 : decode cX3_tallStandsUnder 28 = .ok (.aload_n 2, 1) := by decide +kernel
theorem dX3_tallStandsUnder_29 : decode cX3_tallStandsUnder 29 = .ok (.getfield 43, 3) := by decide +kernel
theorem dX3_tallStandsUnder_32 : decode cX3_tallStandsUnder 32 = .ok (.astore_n 2, 1) := by decide +kernel
theorem dX3_tallStandsUnder_33 : decode cX3_tallStandsUnder 33 = .ok (.goto (-19), 3) := by decide +kernel
theorem dX3_tallStandsUnder_36 : decode cX3_tallStandsUnder 36 = .ok (.iinc 1 1, 3) := by decide +kernel
theorem dX3_tallStandsUnder_39 : decode cX3_tallStandsUnder 39 = .ok (.goto (-37), 3) := by decide +kernel
theorem dX3_tallStandsUnder_42 : decode cX3_tallStandsUnder 42 = .ok (.iconst 0, 1) := by decide +kernel
theorem dX3_tallStandsUnder_43 : decode cX3_tallStandsUnder 43 = .ok (.ireturn, 1) := by decide +kernel
set_option maxRecDepth 20000 in
theorem ggX3_placeByDeckRule_X3_freePlaces : GoodIn wsX3_placeByDeckRule wsX3_freePlaces := goodIn_r _ [7, 8, 9, 10, 11, 6, 12, 13, 2, 14, 15, 16, 17, 1, 48, 49, 50, 51, 52, 53, 54, 55, 56, 57, 58, 59, 60, 61, 62, 63, 64, 65, 66, 67, 68, 69, 70, 71] (by decide +kernel) (by decide +kernel)
set_option maxRecDepth 20000 in
theorem gX3_placeByDeckRule_X3_freePlaces : GoodIn wsX3_placeByDeckRule (wsV RX3 66 RX3 yX3_freePlaces wsX3_freePlaces) := goodIn_app (goodIn_of _ (by decide +kernel)) ggX3_placeByDeckRule_X3_freePlaces
set_option maxRecDepth 20000 in
theorem ggX3_placeByDeckRule_X3_mayStand : GoodIn wsX3_placeByDeckRule wsX3_mayStand := goodIn_r _ [21, 22, 23, 24, 25, 6, 26, 9, 10, 11, 12, 13, 2, 14, 15, 16, 17, 1, 27, 28, 29, 30, 48, 49, 50, 51, 52, 53, 54, 55, 56, 57, 58, 59, 60, 61, 62, 63, 64, 65, 66, 67, 68, 69, 70, 71] (by decide +kernel) (by decide +kernel)
set_option maxRecDepth 20000 in
theorem gX3_placeByDeckRule_X3_mayStand : GoodIn wsX3_placeByDeckRule (wsV RX3 69 RX3 yX3_mayStand wsX3_mayStand) := goodIn_app (goodIn_of _ (by decide +kernel)) ggX3_placeByDeckRule_X3_mayStand
set_option maxRecDepth 20000 in
theorem ggX3_placeByDeckRule_X3_firstGap : GoodIn wsX3_placeByDeckRule wsX3_firstGap := goodIn_r _ [34, 8, 9, 10, 11, 6, 12, 13, 2, 14, 15, 16, 17, 1, 56, 57, 58, 59, 60, 61, 62, 63, 64, 65, 66, 67, 68, 69, 70, 71, 48, 49, 50, 51, 52, 53, 54, 55] (by decide +kernel) (by decide +kernel)
set_option maxRecDepth 20000 in
theorem gX3_placeByDeckRule_X3_firstGap : GoodIn wsX3_placeByDeckRule (wsV RX3 73 RX3 yX3_firstGap wsX3_firstGap) := goodIn_app (goodIn_of _ (by decide +kernel)) ggX3_placeByDeckRule_X3_firstGap
set_option maxRecDepth 20000 in
theorem ggX3_placeByDeckRule_X3_putInPlace : GoodIn wsX3_placeByDeckRule wsX3_putInPlace := goodIn_r _ [38, 39, 40, 41, 42, 6, 43, 9, 10, 11, 12, 13, 2, 14, 15, 16, 17, 1, 44, 45, 46, 47, 56, 57, 58, 59, 60, 61, 62, 63, 64, 65, 66, 67, 68, 69, 70, 71, 48, 49, 50, 51, 52, 53, 54, 55] (by decide +kernel) (by decide +kernel)
set_option maxRecDepth 20000 in
theorem gX3_placeByDeckRule_X3_putInPlace : GoodIn wsX3_placeByDeckRule (wsV RX3 77 RX3 yX3_putInPlace wsX3_putInPlace) := goodIn_app (goodIn_of _ (by decide +kernel)) ggX3_placeByDeckRule_X3_putInPlace
theorem dX3_placeByDeckRule_0 : decode cX3_placeByDeckRule 0 = .ok (.iconst (-1), 1) := by decide +kernel
theorem dX3_placeByDeckRule_1 : decode cX3_placeByDeckRule 1 = .ok (.istore_n 2, 1) := by decide +kernel
theorem dX3_placeByDeckRule_2 : decode cX3_placeByDeckRule 2 = .ok (.iconst (-1), 1) := by decide +kernel
theorem dX3_placeByDeckRule_3 : decode cX3_placeByDeckRule 3 = .ok (.istore_n 3, 1) := by decide +kernel
theorem dX3_placeByDeckRule_4 : decode cX3_placeByDeckRule 4 = .ok (.iconst 0, 1) := by decide +kernel
theorem dX3_placeByDeckRule_5 : decode cX3_placeByDeckRule 5 = .ok (.istore 4, 2) := by decide +kernel
theorem dX3_placeByDeckRule_7 : decode cX3_placeByDeckRule 7 = .ok (.iconst 0, 1) := by decide +kernel
theorem dX3_placeByDeckRule_8 : decode cX3_placeByDeckRule 8 = .ok (.istore 5, 2) := by decide +kernel
theorem dX3_placeByDeckRule_10 : decode cX3_placeByDeckRule 10 = .ok (.iload 5, 2) := by decide +kernel
theorem dX3_placeByDeckRule_12 : decode cX3_placeByDeckRule 12 = .ok (.aload_n 0, 1) := by decide +kernel
theorem dX3_placeByDeckRule_13 : decode cX3_placeByDeckRule 13 = .ok (.getfield 15, 3) := by decide +kernel
theorem dX3_placeByDeckRule_16 : decode cX3_placeByDeckRule 16 = .ok (.if_icmp .ge 90, 3) := by decide +kernel
theorem dX3_placeByDeckRule_19 : decode cX3_placeByDeckRule 19 = .ok (.iconst 0, 1) := by decide +kernel
theorem dX3_placeByDeckRule_20 : decode cX3_placeByDeckRule 20 = .ok (.istore 6, 2) := by decide +kernel
theorem dX3_placeByDeckRule_22 : decode cX3_placeByDeckRule 22 = .ok (.iload 6, 2) := by decide +kernel
theorem dX3_placeByDeckRule_24 : decode cX3_placeByDeckRule 24 = .ok (.aload_n 0, 1) := by decide +kernel
theorem dX3_placeByDeckRule_25 : decode cX3_placeByDeckRule 25 = .ok (.getfield 18, 3) := by decide +kernel
theorem dX3_placeByDeckRule_28 : decode cX3_placeByDeckRule 28 = .ok (.if_icmp .ge 72, 3) := by decide +kernel
theorem dX3_placeByDeckRule_31 : decode cX3_placeByDeckRule 31 = .ok (.aload_n 0, 1) := by decide +kernel
theorem dX3_placeByDeckRule_32 : decode cX3_placeByDeckRule 32 = .ok (.iload 5, 2) := by decide +kernel
theorem dX3_placeByDeckRule_34 : decode cX3_placeByDeckRule 34 = .ok (.iload 6, 2) := by decide +kernel
theorem dX3_placeByDeckRule_36 : decode cX3_placeByDeckRule 36 = .ok (.invokevirtual 66, 3) := by decide +kernel
theorem dX3_placeByDeckRule_39 : decode cX3_placeByDeckRule 39 = .ok (.istore 7, 2) := by decide +kernel
theorem dX3_placeByDeckRule_41 : decode cX3_placeByDeckRule 41 = .ok (.iload_n 2, 1) := by decide +kernel
theorem dX3_placeByDeckRule_42 : decode cX3_placeByDeckRule 42 = .ok (.iconst (-1), 1) := by decide +kernel
theorem dX3_placeByDeckRule_43 : decode cX3_placeByDeckRule 43 = .ok (.if_icmp .eq 10, 3) := by decide +kernel
theorem dX3_placeByDeckRule_46 : decode cX3_placeByDeckRule 46 = .ok (.iload 7, 2) := by decide +kernel
theorem dX3_placeByDeckRule_48 : decode cX3_placeByDeckRule 48 = .ok (.iload 4, 2) := by decide +kernel
theorem dX3_placeByDeckRule_50 : decode cX3_placeByDeckRule 50 = .ok (.if_icmp .ge 44, 3) := by decide +kernel
theorem dX3_placeByDeckRule_53 : decode cX3_placeByDeckRule 53 = .ok (.aload_n 0, 1) := by decide +kernel
theorem dX3_placeByDeckRule_54 : decode cX3_placeByDeckRule 54 = .ok (.iload 5, 2) := by decide +kernel
theorem dX3_placeByDeckRule_56 : decode cX3_placeByDeckRule 56 = .ok (.iload 6, 2) := by decide +kernel
theorem dX3_placeByDeckRule_58 : decode cX3_placeByDeckRule 58 = .ok (.aload_n 1, 1) := by decide +kernel
theorem dX3_placeByDeckRule_59 : decode cX3_placeByDeckRule 59 = .ok (.getfield 63, 3) := by decide +kernel
theorem dX3_placeByDeckRule_62 : decode cX3_placeByDeckRule 62 = .ok (.invokevirtual 69, 3) := by decide +kernel
theorem dX3_placeByDeckRule_65 : decode cX3_placeByDeckRule 65 = .ok (.ifCond .eq 29, 3) := by decide +kernel
theorem dX3_placeByDeckRule_68 : decode cX3_placeByDeckRule 68 = .ok (.aload_n 0, 1) := by decide +kernel
theorem dX3_placeByDeckRule_69 : decode cX3_placeByDeckRule 69 = .ok (.iload 5, 2) := by decide +kernel
theorem dX3_placeByDeckRule_71 : decode cX3_placeByDeckRule 71 = .ok (.iload 6, 2) := by decide +kernel
theorem dX3_placeByDeckRule_73 : decode cX3_placeByDeckRule 73 = .ok (.aload_n 1, 1) := by decide +kernel
theorem dX3_placeByDeckRule_74 : decode cX3_placeByDeckRule 74 = .ok (.getfield 42, 3) := by decide +kernel
theorem dX3_placeByDeckRule_77 : decode cX3_placeByDeckRule 77 = .ok (.invokevirtual 73, 3) := by decide +kernel
theorem dX3_placeByDeckRule_80 : decode cX3_placeByDeckRule 80 = .ok (.iconst (-1), 1) := by decide +kernel
theorem dX3_placeByDeckRule_81 : decode cX3_placeByDeckRule 81 = .ok (.if_icmp .eq 13, 3) := by decide +kernel
theorem dX3_placeByDeckRule_84 : decode cX3_placeByDeckRule 84 = .ok (.iload 5, 2) := by decide +kernel
theorem dX3_placeByDeckRule_86 : decode cX3_placeByDeckRule 86 = .ok (.istore_n 2, 1) := by decide +kernel
theorem dX3_placeByDeckRule_87 : decode cX3_placeByDeckRule 87 = .ok (.iload 6, 2) := by decide +kernel
theorem dX3_placeByDeckRule_89 : decode cX3_placeByDeckRule 89 = .ok (.istore_n 3, 1) := by decide +kernel
theorem dX3_placeByDeckRule_90 : decode cX3_placeByDeckRule 90 = .ok (.iload 7, 2) := by decide +kernel
theorem dX3_placeByDeckRule_92 : decode cX3_placeByDeckRule 92 = .ok (.istore 4, 2) := by decide +kernel
theorem dX3_placeByDeckRule_94 : decode cX3_placeByDeckRule 94 = .ok (.iinc 6 1, 3) := by decide +kernel
theorem dX3_placeByDeckRule_97 : decode cX3_placeByDeckRule 97 = .ok (.goto (-75), 3) := by decide +kernel
theorem dX3_placeByDeckRule_100 : decode cX3_placeByDeckRule 100 = .ok (.iinc 5 1, 3) := by decide +kernel
theorem dX3_placeByDeckRule_103 : decode cX3_placeByDeckRule 103 = .ok (.goto (-93), 3) := by decide +kernel
theorem dX3_placeByDeckRule_106 : decode cX3_placeByDeckRule 106 = .ok (.iload_n 2, 1) := by decide +kernel
theorem dX3_placeByDeckRule_107 : decode cX3_placeByDeckRule 107 = .ok (.iconst (-1), 1) := by decide +kernel
theorem dX3_placeByDeckRule_108 : decode cX3_placeByDeckRule 108 = .ok (.if_icmp .ne 5, 3) := by decide +kernel
theorem dX3_placeByDeckRule_111 : decode cX3_placeByDeckRule 111 = .ok (.iconst 0, 1) := by decide +kernel
theorem dX3_placeByDeckRule_112 : decode cX3_placeByDeckRule 112 = .ok (.ireturn, 1) := by decide +kernel
theorem dX3_placeByDeckRule_113 : decode cX3_placeByDeckRule 113 = .ok (.aload_n 0, 1) := by decide +kernel
theorem dX3_placeByDeckRule_114 : decode cX3_placeByDeckRule 114 = .ok (.aload_n 1, 1) := by decide +kernel
theorem dX3_placeByDeckRule_115 : decode cX3_placeByDeckRule 115 = .ok (.iload_n 2, 1) := by decide +kernel
theorem dX3_placeByDeckRule_116 : decode cX3_placeByDeckRule 116 = .ok (.iload_n 3, 1) := by decide +kernel
theorem dX3_placeByDeckRule_117 : decode cX3_placeByDeckRule 117 = .ok (.aload_n 0, 1) := by decide +kernel
theorem dX3_placeByDeckRule_118 : decode cX3_placeByDeckRule 118 = .ok (.iload_n 2, 1) := by decide +kernel
theorem dX3_placeByDeckRule_119 : decode cX3_placeByDeckRule 119 = .ok (.iload_n 3, 1) := by decide +kernel
theorem dX3_placeByDeckRule_120 : decode cX3_placeByDeckRule 120 = .ok (.aload_n 1, 1) := by decide +kernel
theorem dX3_placeByDeckRule_121 : decode cX3_placeByDeckRule 121 = .ok (.getfield 42, 3) := by decide +kernel
theorem dX3_placeByDeckRule_124 : decode cX3_placeByDeckRule 124 = .ok (.invokevirtual 73, 3) := by decide +kernel
theorem dX3_placeByDeckRule_127 : decode cX3_placeByDeckRule 127 = .ok (.invokevirtual 77, 3) := by decide +kernel
theorem dX3_placeByDeckRule_130 : decode cX3_placeByDeckRule 130 = .ok (.iconst 1, 1) := by decide +kernel
theorem dX3_placeByDeckRule_131 : decode cX3_placeByDeckRule 131 = .ok (.ireturn, 1) := by decide +kernel
set_option maxRecDepth 20000 in
theorem ggX3_putInPlace_X3_nextAhead : GoodIn wsX3_putInPlace wsX3_nextAhead := goodIn_r _ [6, 7, 8, 9, 5, 10, 11, 12, 13, 14, 15, 16, 17, 22, 23, 24, 25, 26, 27, 28, 29, 30, 31, 32, 33, 34, 35, 36, 37, 38, 39, 40, 41, 42, 43, 44, 45] (by decide +kernel) (by decide +kernel)
set_option maxRecDepth 20000 in
theorem gX3_putInPlace_X3_nextAhead : GoodIn wsX3_putInPlace (wsV RX3 87 RX3 yX3_nextAhead wsX3_nextAhead) := goodIn_app (goodIn_of _ (by decide +kernel)) ggX3_putInPlace_X3_nextAhead
set_option maxRecDepth 20000 in
theorem ggX3_putInPlace_X3_nearestBow : GoodIn wsX3_putInPlace wsX3_nearestBow := goodIn_r _ [10, 11, 12, 13, 14, 15, 5, 16, 17, 38, 39, 40, 41, 42, 43, 44, 45] (by decide +kernel) (by decide +kernel)
set_option maxRecDepth 20000 in
theorem gX3_putInPlace_X3_nearestBow : GoodIn wsX3_putInPlace (wsV RX3 38 RX3 yX3_nearestBow wsX3_nearestBow) := goodIn_app (goodIn_of _ (by decide +kernel)) ggX3_putInPlace_X3_nearestBow
set_option maxRecDepth 20000 in
theorem ggX3_putInPlace_X3_chain : GoodIn wsX3_putInPlace wsX3_chain := goodIn_r _ [21, 11, 12, 13, 14, 15, 5, 16, 17, 22, 23, 24, 25, 26, 27, 28, 29, 30, 31, 32, 33, 34, 35, 36, 37, 38, 39, 40, 41, 42, 43, 44, 45] (by decide +kernel) (by decide +kernel)
set_option maxRecDepth 20000 in
theorem gX3_putInPlace_X3_chain : GoodIn wsX3_putInPlace (wsV RX3 91 RX3 yX3_chain wsX3_chain) := goodIn_app (goodIn_of _ (by decide +kernel)) ggX3_putInPlace_X3_chain
theorem dX3_putInPlace_0 : decode cX3_putInPlace 0 = .ok (.aload_n 1, 1) := by decide +kernel
theorem dX3_putInPlace_1 : decode cX3_putInPlace 1 = .ok (.iload_n 2, 1) := by decide +kernel
theorem dX3_putInPlace_2 : decode cX3_putInPlace 2 = .ok (.putfield 81, 3) := by decide +kernel
theorem dX3_putInPlace_5 : decode cX3_putInPlace 5 = .ok (.aload_n 1, 1) := by decide +kernel
theorem dX3_putInPlace_6 : decode cX3_putInPlace 6 = .ok (.iload_n 3, 1) := by decide +kernel
theorem dX3_putInPlace_7 : decode cX3_putInPlace 7 = .ok (.putfield 84, 3) := by decide +kernel
theorem dX3_putInPlace_10 : decode cX3_putInPlace 10 = .ok (.aload_n 1, 1) := by decide +kernel
theorem dX3_putInPlace_11 : decode cX3_putInPlace 11 = .ok (.iload 4, 2) := by decide +kernel
theorem dX3_putInPlace_13 : decode cX3_putInPlace 13 = .ok (.putfield 47, 3) := by decide +kernel
theorem dX3_putInPlace_16 : decode cX3_putInPlace 16 = .ok (.aload_n 0, 1) := by decide +kernel
theorem dX3_putInPlace_17 : decode cX3_putInPlace 17 = .ok (.aload_n 1, 1) := by decide +kernel
theorem dX3_putInPlace_18 : decode cX3_putInPlace 18 = .ok (.invokevirtual 87, 3) := by decide +kernel
theorem dX3_putInPlace_21 : decode cX3_putInPlace 21 = .ok (.astore 5, 2) := by decide +kernel
theorem dX3_putInPlace_23 : decode cX3_putInPlace 23 = .ok (.aload_n 1, 1) := by decide +kernel
theorem dX3_putInPlace_24 : decode cX3_putInPlace 24 = .ok (.aload 5, 2) := by decide +kernel
theorem dX3_putInPlace_26 : decode cX3_putInPlace 26 = .ok (.ifnonnull 12, 3) := by decide +kernel
theorem dX3_putInPlace_29 : decode cX3_putInPlace 29 = .ok (.aload_n 0, 1) := by decide +kernel
theorem dX3_putInPlace_30 : decode cX3_putInPlace 30 = .ok (.iload_n 2, 1) := by decide +kernel
theorem dX3_putInPlace_31 : decode cX3_putInPlace 31 = .ok (.iload_n 3, 1) := by decide +kernel
theorem dX3_putInPlace_32 : decode cX3_putInPlace 32 = .ok (.invokevirtual 38, 3) := by decide +kernel
theorem dX3_putInPlace_35 : decode cX3_putInPlace 35 = .ok (.goto 8, 3) := by decide +kernel
theorem dX3_putInPlace_38 : decode cX3_putInPlace 38 = .ok (.aload 5, 2) := by decide +kernel
theorem dX3_putInPlace_40 : decode cX3_putInPlace 40 = .ok (.getfield 43, 3) := by decide +kernel
theorem dX3_putInPlace_43 : decode cX3_putInPlace 43 = .ok (.putfield 43, 3) := by decide +kernel
theorem dX3_putInPlace_46 : decode cX3_putInPlace 46 = .ok (.aload_n 0, 1) := by decide +kernel
theorem dX3_putInPlace_47 : decode cX3_putInPlace 47 = .ok (.aload_n 1, 1) := by decide +kernel
theorem dX3_putInPlace_48 : decode cX3_putInPlace 48 = .ok (.aload 5, 2) := by decide +kernel
theorem dX3_putInPlace_50 : decode cX3_putInPlace 50 = .ok (.aload_n 1, 1) := by decide +kernel
theorem dX3_putInPlace_51 : decode cX3_putInPlace 51 = .ok (.invokevirtual 91, 3) := by decide +kernel
theorem dX3_putInPlace_54 : decode cX3_putInPlace 54 = .ok (.aload_n 0, 1) := by decide +kernel
theorem dX3_putInPlace_55 : decode cX3_putInPlace 55 = .ok (.dup, 1) := by decide +kernel
theorem dX3_putInPlace_56 : decode cX3_putInPlace 56 = .ok (.getfield 95, 3) := by decide +kernel
theorem dX3_putInPlace_59 : decode cX3_putInPlace 59 = .ok (.iconst 1, 1) := by decide +kernel
theorem dX3_putInPlace_60 : decode cX3_putInPlace 60 = .ok (.iadd, 1) := by decide +kernel
theorem dX3_putInPlace_61 : decode cX3_putInPlace 61 = .ok (.putfield 95, 3) := by decide +kernel
theorem dX3_putInPlace_64 : decode cX3_putInPlace 64 = .ok (.return_, 1) := by decide +kernel
set_option maxRecDepth 20000 in
theorem ggX3_clearPlace_X3_nextAhead : GoodIn wsX3_clearPlace wsX3_nextAhead := goodIn_r _ [6, 7, 8, 9, 5, 10, 11, 12, 13, 14, 15, 16, 17, 22, 23, 24, 25, 26, 27, 28, 29, 30, 31, 32, 33, 34, 35, 36, 37, 38, 39, 40, 41, 42, 43, 44, 45] (by decide +kernel) (by decide +kernel)
set_option maxRecDepth 20000 in
theorem gX3_clearPlace_X3_nextAhead : GoodIn wsX3_clearPlace (wsV RX3 87 RX3 yX3_nextAhead wsX3_nextAhead) := goodIn_app (goodIn_of _ (by decide +kernel)) ggX3_clearPlace_X3_nextAhead
set_option maxRecDepth 20000 in
theorem ggX3_clearPlace_X3_chain : GoodIn wsX3_clearPlace wsX3_chain := goodIn_r _ [21, 11, 12, 13, 14, 15, 5, 16, 17, 22, 23, 24, 25, 26, 27, 28, 29, 30, 31, 32, 33, 34, 35, 36, 37, 38, 39, 40, 41, 42, 43, 44, 45] (by decide +kernel) (by decide +kernel)
set_option maxRecDepth 20000 in
theorem gX3_clearPlace_X3_chain : GoodIn wsX3_clearPlace (wsV RX3 91 RX3 yX3_chain wsX3_chain) := goodIn_app (goodIn_of _ (by decide +kernel)) ggX3_clearPlace_X3_chain
theorem dX3_clearPlace_0 : decode cX3_clearPlace 0 = .ok (.aload_n 0, 1) := by decide +kernel
theorem dX3_clearPlace_1 : decode cX3_clearPlace 1 = .ok (.aload_n 1, 1) := by decide +kernel
theorem dX3_clearPlace_2 : decode cX3_clearPlace 2 = .ok (.aload_n 0, 1) := by decide +kernel
theorem dX3_clearPlace_3 : decode cX3_clearPlace 3 = .ok (.aload_n 1, 1) := by decide +kernel
theorem dX3_clearPlace_4 : decode cX3_clearPlace 4 = .ok (.invokevirtual 87, 3) := by decide +kernel
theorem dX3_clearPlace_7 : decode cX3_clearPlace 7 = .ok (.aload_n 1, 1) := by decide +kernel
theorem dX3_clearPlace_8 : decode cX3_clearPlace 8 = .ok (.getfield 43, 3) := by decide +kernel
theorem dX3_clearPlace_11 : decode cX3_clearPlace 11 = .ok (.invokevirtual 91, 3) := by decide +kernel
theorem dX3_clearPlace_14 : decode cX3_clearPlace 14 = .ok (.aload_n 1, 1) := by decide +kernel
theorem dX3_clearPlace_15 : decode cX3_clearPlace 15 = .ok (.aconst_null, 1) := by decide +kernel
theorem dX3_clearPlace_16 : decode cX3_clearPlace 16 = .ok (.putfield 43, 3) := by decide +kernel
theorem dX3_clearPlace_19 : decode cX3_clearPlace 19 = .ok (.aload_n 1, 1) := by decide +kernel
theorem dX3_clearPlace_20 : decode cX3_clearPlace 20 = .ok (.iconst (-1), 1) := by decide +kernel
theorem dX3_clearPlace_21 : decode cX3_clearPlace 21 = .ok (.putfield 81, 3) := by decide +kernel
theorem dX3_clearPlace_24 : decode cX3_clearPlace 24 = .ok (.aload_n 1, 1) := by decide +kernel
theorem dX3_clearPlace_25 : decode cX3_clearPlace 25 = .ok (.iconst (-1), 1) := by decide +kernel
theorem dX3_clearPlace_26 : decode cX3_clearPlace 26 = .ok (.putfield 84, 3) := by decide +kernel
theorem dX3_clearPlace_29 : decode cX3_clearPlace 29 = .ok (.aload_n 1, 1) := by decide +kernel
theorem dX3_clearPlace_30 : decode cX3_clearPlace 30 = .ok (.iconst (-1), 1) := by decide +kernel
theorem dX3_clearPlace_31 : decode cX3_clearPlace 31 = .ok (.putfield 47, 3) := by decide +kernel
theorem dX3_clearPlace_34 : decode cX3_clearPlace 34 = .ok (.aload_n 0, 1) := by decide +kernel
theorem dX3_clearPlace_35 : decode cX3_clearPlace 35 = .ok (.dup, 1) := by decide +kernel
theorem dX3_clearPlace_36 : decode cX3_clearPlace 36 = .ok (.getfield 95, 3) := by decide +kernel
theorem dX3_clearPlace_39 : decode cX3_clearPlace 39 = .ok (.iconst 1, 1) := by decide +kernel
theorem dX3_clearPlace_40 : decode cX3_clearPlace 40 = .ok (.isub, 1) := by decide +kernel
theorem dX3_clearPlace_41 : decode cX3_clearPlace 41 = .ok (.putfield 95, 3) := by decide +kernel
theorem dX3_clearPlace_44 : decode cX3_clearPlace 44 = .ok (.return_, 1) := by decide +kernel
set_option maxRecDepth 20000 in
theorem ggX3_nextAhead_X3_nearestBow : GoodIn wsX3_nextAhead wsX3_nearestBow := goodIn_r _ [5, 6, 7, 8, 9, 10, 4, 11, 12, 29, 30, 31, 32, 33, 34, 35, 36] (by decide +kernel) (by decide +kernel)
set_option maxRecDepth 20000 in
theorem gX3_nextAhead_X3_nearestBow : GoodIn wsX3_nextAhead (wsV RX3 38 RX3 yX3_nearestBow wsX3_nearestBow) := goodIn_app (goodIn_of _ (by decide +kernel)) ggX3_nextAhead_X3_nearestBow
theorem dX3_nextAhead_0 : decode cX3_nextAhead 0 = .ok (.aconst_null, 1) := by decide +kernel
theorem dX3_nextAhead_1 : decode cX3_nextAhead 1 = .ok (.astore_n 2, 1) := by decide +kernel
theorem dX3_nextAhead_2 : decode cX3_nextAhead 2 = .ok (.aload_n 0, 1) := by decide +kernel
theorem dX3_nextAhead_3 : decode cX3_nextAhead 3 = .ok (.aload_n 1, 1) := by decide +kernel
theorem dX3_nextAhead_4 : decode cX3_nextAhead 4 = .ok (.getfield 81, 3) := by decide +kernel
theorem dX3_nextAhead_7 : decode cX3_nextAhead 7 = .ok (.aload_n 1, 1) := by decide +kernel
theorem dX3_nextAhead_8 : decode cX3_nextAhead 8 = .ok (.getfield 84, 3) := by decide +kernel
theorem dX3_nextAhead_11 : decode cX3_nextAhead 11 = .ok (.invokevirtual 38, 3) := by decide +kernel
theorem dX3_nextAhead_14 : decode cX3_nextAhead 14 = .ok (.astore_n 3, 1) := by decide +kernel
theorem dX3_nextAhead_15 : decode cX3_nextAhead 15 = .ok (.aload_n 3, 1) := by decide +kernel
theorem dX3_nextAhead_16 : decode cX3_nextAhead 16 = .ok (.ifnull 24, 3) := by decide +kernel
theorem dX3_nextAhead_19 : decode cX3_nextAhead 19 = .ok (.aload_n 3, 1) := by decide +kernel
theorem dX3_nextAhead_20 : decode cX3_nextAhead 20 = .ok (.getfield 47, 3) := by decide +kernel
theorem dX3_nextAhead_23 : decode cX3_nextAhead 23 = .ok (.aload_n 1, 1) := by decide +kernel
theorem dX3_nextAhead_24 : decode cX3_nextAhead 24 = .ok (.getfield 47, 3) := by decide +kernel
theorem dX3_nextAhead_27 : decode cX3_nextAhead 27 = .ok (.if_icmp .ge 13, 3) := by decide +kernel
theorem dX3_nextAhead_30 : decode cX3_nextAhead 30 = .ok (.aload_n 3, 1) := by decide +kernel
theorem dX3_nextAhead_31 : decode cX3_nextAhead 31 = .ok (.astore_n 2, 1) := by decide +kernel
theorem dX3_nextAhead_32 : decode cX3_nextAhead 32 = .ok (.aload_n 3, 1) := by decide +kernel
theorem dX3_nextAhead_33 : decode cX3_nextAhead 33 = .ok (.getfield 43, 3) := by decide +kernel
theorem dX3_nextAhead_36 : decode cX3_nextAhead 36 = .ok (.astore_n 3, 1) := by decide +kernel
theorem dX3_nextAhead_37 : decode cX3_nextAhead 37 = .ok (.goto (-22), 3) := by decide +kernel
theorem dX3_nextAhead_40 : decode cX3_nextAhead 40 = .ok (.aload_n 2, 1) := by decide +kernel
theorem dX3_nextAhead_41 : decode cX3_nextAhead 41 = .ok (.areturn, 1) := by decide +kernel
set_option maxRecDepth 20000 in
theorem ggX3_chain_X3_hasLane : GoodIn wsX3_chain wsX3_hasLane := goodIn_r _ [7, 8, 2, 25, 26, 27, 28, 29, 30, 31, 32] (by decide +kernel) (by decide +kernel)
set_option maxRecDepth 20000 in
theorem gX3_chain_X3_hasLane : GoodIn wsX3_chain (wsV RX3 34 RX3 yX3_hasLane wsX3_hasLane) := goodIn_app (goodIn_of _ (by decide +kernel)) ggX3_chain_X3_hasLane
theorem dX3_chain_0 : decode cX3_chain 0 = .ok (.aload_n 2, 1) := by decide +kernel
theorem dX3_chain_1 : decode cX3_chain 1 = .ok (.ifnull 11, 3) := by decide +kernel
theorem dX3_chain_4 : decode cX3_chain 4 = .ok (.aload_n 2, 1) := by decide +kernel
theorem dX3_chain_5 : decode cX3_chain 5 = .ok (.aload_n 3, 1) := by decide +kernel
theorem dX3_chain_6 : decode cX3_chain 6 = .ok (.putfield 43, 3) := by decide +kernel
theorem dX3_chain_9 : decode cX3_chain 9 = .ok (.goto 38, 3) := by decide +kernel
theorem dX3_chain_12 : decode cX3_chain 12 = .ok (.aload_n 0, 1) := by decide +kernel
theorem dX3_chain_13 : decode cX3_chain 13 = .ok (.aload_n 1, 1) := by decide +kernel
theorem dX3_chain_14 : decode cX3_chain 14 = .ok (.getfield 81, 3) := by decide +kernel
theorem dX3_chain_17 : decode cX3_chain 17 = .ok (.aload_n 1, 1) := by decide +kernel
theorem dX3_chain_18 : decode cX3_chain 18 = .ok (.getfield 84, 3) := by decide +kernel
theorem dX3_chain_21 : decode cX3_chain 21 = .ok (.invokevirtual 34, 3) := by decide +kernel
theorem dX3_chain_24 : decode cX3_chain 24 = .ok (.ifCond .eq 23, 3) := by decide +kernel
theorem dX3_chain_27 : decode cX3_chain 27 = .ok (.aload_n 0, 1) := by decide +kernel
theorem dX3_chain_28 : decode cX3_chain 28 = .ok (.getfield 30, 3) := by decide +kernel
theorem dX3_chain_31 : decode cX3_chain 31 = .ok (.aload_n 1, 1) := by decide +kernel
theorem dX3_chain_32 : decode cX3_chain 32 = .ok (.getfield 81, 3) := by decide +kernel
theorem dX3_chain_35 : decode cX3_chain 35 = .ok (.aload_n 0, 1) := by decide +kernel
theorem dX3_chain_36 : decode cX3_chain 36 = .ok (.getfield 18, 3) := by decide +kernel
theorem dX3_chain_39 : decode cX3_chain 39 = .ok (.imul, 1) := by decide +kernel
theorem dX3_chain_40 : decode cX3_chain 40 = .ok (.aload_n 1, 1) := by decide +kernel
theorem dX3_chain_41 : decode cX3_chain 41 = .ok (.getfield 84, 3) := by decide +kernel
theorem dX3_chain_44 : decode cX3_chain 44 = .ok (.iadd, 1) := by decide +kernel
theorem dX3_chain_45 : decode cX3_chain 45 = .ok (.aload_n 3, 1) := by decide +kernel
theorem dX3_chain_46 : decode cX3_chain 46 = .ok (.aastore, 1) := by decide +kernel
theorem dX3_chain_47 : decode cX3_chain 47 = .ok (.return_, 1) := by decide +kernel
theorem dX4_init_0 : decode cX4_init 0 = .ok (.aload_n 0, 1) := by decide +kernel
theorem dX4_init_1 : decode cX4_init 1 = .ok (.invokespecial 3, 3) := by decide +kernel
theorem dX4_init_4 : decode cX4_init 4 = .ok (.aload_n 0, 1) := by decide +kernel
theorem dX4_init_5 : decode cX4_init 5 = .ok (.iconst 0, 1) := by decide +kernel
theorem dX4_init_6 : decode cX4_init 6 = .ok (.putfield 9, 3) := by decide +kernel
theorem dX4_init_9 : decode cX4_init 9 = .ok (.aload_n 0, 1) := by decide +kernel
theorem dX4_init_10 : decode cX4_init 10 = .ok (.iconst (-1), 1) := by decide +kernel
theorem dX4_init_11 : decode cX4_init 11 = .ok (.putfield 15, 3) := by decide +kernel
theorem dX4_init_14 : decode cX4_init 14 = .ok (.aload_n 0, 1) := by decide +kernel
theorem dX4_init_15 : decode cX4_init 15 = .ok (.iconst (-1), 1) := by decide +kernel
theorem dX4_init_16 : decode cX4_init 16 = .ok (.putfield 18, 3) := by decide +kernel
theorem dX4_init_19 : decode cX4_init 19 = .ok (.aload_n 0, 1) := by decide +kernel
theorem dX4_init_20 : decode cX4_init 20 = .ok (.iconst (-1), 1) := by decide +kernel
theorem dX4_init_21 : decode cX4_init 21 = .ok (.putfield 21, 3) := by decide +kernel
theorem dX4_init_24 : decode cX4_init 24 = .ok (.aload_n 0, 1) := by decide +kernel
theorem dX4_init_25 : decode cX4_init 25 = .ok (.iconst (-1), 1) := by decide +kernel
theorem dX4_init_26 : decode cX4_init 26 = .ok (.putfield 24, 3) := by decide +kernel
theorem dX4_init_29 : decode cX4_init 29 = .ok (.aload_n 0, 1) := by decide +kernel
theorem dX4_init_30 : decode cX4_init 30 = .ok (.iconst (-1), 1) := by decide +kernel
theorem dX4_init_31 : decode cX4_init 31 = .ok (.putfield 27, 3) := by decide +kernel
theorem dX4_init_34 : decode cX4_init 34 = .ok (.aload_n 0, 1) := by decide +kernel
theorem dX4_init_35 : decode cX4_init 35 = .ok (.iload_n 1, 1) := by decide +kernel
theorem dX4_init_36 : decode cX4_init 36 = .ok (.putfield 30, 3) := by decide +kernel
theorem dX4_init_39 : decode cX4_init 39 = .ok (.aload_n 0, 1) := by decide +kernel
theorem dX4_init_40 : decode cX4_init 40 = .ok (.aload_n 2, 1) := by decide +kernel
theorem dX4_init_41 : decode cX4_init 41 = .ok (.putfield 33, 3) := by decide +kernel
theorem dX4_init_44 : decode cX4_init 44 = .ok (.aload_n 0, 1) := by decide +kernel
theorem dX4_init_45 : decode cX4_init 45 = .ok (.iload_n 3, 1) := by decide +kernel
theorem dX4_init_46 : decode cX4_init 46 = .ok (.putfield 37, 3) := by decide +kernel
theorem dX4_init_49 : decode cX4_init 49 = .ok (.aload_n 0, 1) := by decide +kernel
theorem dX4_init_50 : decode cX4_init 50 = .ok (.iload 4, 2) := by decide +kernel
theorem dX4_init_52 : decode cX4_init 52 = .ok (.putfield 40, 3) := by decide +kernel
theorem dX4_init_55 : decode cX4_init 55 = .ok (.aload_n 0, 1) := by decide +kernel
theorem dX4_init_56 : decode cX4_init 56 = .ok (.iload 5, 2) := by decide +kernel
theorem dX4_init_58 : decode cX4_init 58 = .ok (.putfield 43, 3) := by decide +kernel
theorem dX4_init_61 : decode cX4_init 61 = .ok (.aload_n 0, 1) := by decide +kernel
theorem dX4_init_62 : decode cX4_init 62 = .ok (.iload 6, 2) := by decide +kernel
theorem dX4_init_64 : decode cX4_init 64 = .ok (.putfield 46, 3) := by decide +kernel
theorem dX4_init_67 : decode cX4_init 67 = .ok (.return_, 1) := by decide +kernel
theorem dX4_isLate_0 : decode cX4_isLate 0 = .ok (.aload_n 0, 1) := by decide +kernel
theorem dX4_isLate_1 : decode cX4_isLate 1 = .ok (.getfield 15, 3) := by decide +kernel
theorem dX4_isLate_4 : decode cX4_isLate 4 = .ok (.aload_n 0, 1) := by decide +kernel
theorem dX4_isLate_5 : decode cX4_isLate 5 = .ok (.getfield 33, 3) := by decide +kernel
theorem dX4_isLate_8 : decode cX4_isLate 8 = .ok (.getfield 49, 3) := by decide +kernel
theorem dX4_isLate_11 : decode cX4_isLate 11 = .ok (.bipush 30, 2) := by decide +kernel
theorem dX4_isLate_13 : decode cX4_isLate 13 = .ok (.isub, 1) := by decide +kernel
theorem dX4_isLate_14 : decode cX4_isLate 14 = .ok (.if_icmp .le 7, 3) := by decide +kernel
theorem dX4_isLate_17 : decode cX4_isLate 17 = .ok (.iconst 1, 1) := by decide +kernel
theorem dX4_isLate_18 : decode cX4_isLate 18 = .ok (.goto 4, 3) := by decide +kernel
theorem dX4_isLate_21 : decode cX4_isLate 21 = .ok (.iconst 0, 1) := by decide +kernel
theorem dX4_isLate_22 : decode cX4_isLate 22 = .ok (.ireturn, 1) := by decide +kernel
set_option maxRecDepth 20000 in
theorem ggX4_boardsAheadOf_X4_isLate : GoodIn wsX4_boardsAheadOf wsX4_isLate := goodIn_r _ [7, 8, 9, 10, 11, 12, 13, 14, 15, 16, 17, 18, 19, 20, 21, 22, 23, 24, 25, 26, 27, 28, 29, 30, 31, 32, 33, 34] (by decide +kernel) (by decide +kernel)
set_option maxRecDepth 20000 in
theorem gX4_boardsAheadOf_X4_isLate : GoodIn wsX4_boardsAheadOf (wsV RX4 52 RX4 yX4_isLate wsX4_isLate) := goodIn_app (goodIn_of _ (by decide +kernel)) ggX4_boardsAheadOf_X4_isLate
theorem dX4_boardsAheadOf_0 : decode cX4_boardsAheadOf 0 = .ok (.aload_n 0, 1) := by decide +kernel
theorem dX4_boardsAheadOf_1 : decode cX4_boardsAheadOf 1 = .ok (.invokevirtual 52, 3) := by decide +kernel
theorem dX4_boardsAheadOf_4 : decode cX4_boardsAheadOf 4 = .ok (.aload_n 1, 1) := by decide +kernel
theorem dX4_boardsAheadOf_5 : decode cX4_boardsAheadOf 5 = .ok (.invokevirtual 52, 3) := by decide +kernel
theorem dX4_boardsAheadOf_8 : decode cX4_boardsAheadOf 8 = .ok (.if_icmp .eq 8, 3) := by decide +kernel
theorem dX4_boardsAheadOf_11 : decode cX4_boardsAheadOf 11 = .ok (.aload_n 1, 1) := by decide +kernel
theorem dX4_boardsAheadOf_12 : decode cX4_boardsAheadOf 12 = .ok (.invokevirtual 52, 3) := by decide +kernel
theorem dX4_boardsAheadOf_15 : decode cX4_boardsAheadOf 15 = .ok (.ireturn, 1) := by decide +kernel
theorem dX4_boardsAheadOf_16 : decode cX4_boardsAheadOf 16 = .ok (.aload_n 0, 1) := by decide +kernel
theorem dX4_boardsAheadOf_17 : decode cX4_boardsAheadOf 17 = .ok (.getfield 40, 3) := by decide +kernel
theorem dX4_boardsAheadOf_20 : decode cX4_boardsAheadOf 20 = .ok (.aload_n 1, 1) := by decide +kernel
theorem dX4_boardsAheadOf_21 : decode cX4_boardsAheadOf 21 = .ok (.getfield 40, 3) := by decide +kernel
theorem dX4_boardsAheadOf_24 : decode cX4_boardsAheadOf 24 = .ok (.if_icmp .ne 22, 3) := by decide +kernel
theorem dX4_boardsAheadOf_27 : decode cX4_boardsAheadOf 27 = .ok (.aload_n 0, 1) := by decide +kernel
theorem dX4_boardsAheadOf_28 : decode cX4_boardsAheadOf 28 = .ok (.getfield 30, 3) := by decide +kernel
theorem dX4_boardsAheadOf_31 : decode cX4_boardsAheadOf 31 = .ok (.aload_n 1, 1) := by decide +kernel
theorem dX4_boardsAheadOf_32 : decode cX4_boardsAheadOf 32 = .ok (.getfield 30, 3) := by decide +kernel
end
section
theorem dX4_boardsAheadOf_35 : decode cX4_boardsAheadOf 35 = .ok (.if_icmp .ge 7, 3) := by decide +kernel
theorem dX4_boardsAheadOf_38 : decode cX4_boardsAheadOf 38 = .ok (.iconst 1, 1) := by decide +kernel
theorem dX4_boardsAheadOf_39 : decode cX4_boardsAheadOf 39 = .ok (.goto 23, 3) := by decide +kernel
theorem dX4_boardsAheadOf_42 : decode cX4_boardsAheadOf 42 = .ok (.iconst 0, 1) := by decide +kernel
theorem dX4_boardsAheadOf_43 : decode cX4_boardsAheadOf 43 = .ok (.goto 19, 3) := by decide +kernel
theorem dX4_boardsAheadOf_46 : decode cX4_boardsAheadOf 46 = .ok (.aload_n 0, 1) := by decide +kernel
theorem dX4_boardsAheadOf_47 : decode cX4_boardsAheadOf 47 = .ok (.getfield 40, 3) := by decide +kernel
theorem dX4_boardsAheadOf_50 : decode cX4_boardsAheadOf 50 = .ok (.aload_n 1, 1) := by decide +kernel
theorem dX4_boardsAheadOf_51 : decode cX4_boardsAheadOf 51 = .ok (.getfield 40, 3) := by decide +kernel
theorem dX4_boardsAheadOf_54 : decode cX4_boardsAheadOf 54 = .ok (.if_icmp .le 7, 3) := by decide +kernel
theorem dX4_boardsAheadOf_57 : decode cX4_boardsAheadOf 57 = .ok (.iconst 1, 1) := by decide +kernel
theorem dX4_boardsAheadOf_58 : decode cX4_boardsAheadOf 58 = .ok (.goto 4, 3) := by decide +kernel
theorem dX4_boardsAheadOf_61 : decode cX4_boardsAheadOf 61 = .ok (.iconst 0, 1) := by decide +kernel
theorem dX4_boardsAheadOf_62 : decode cX4_boardsAheadOf 62 = .ok (.ireturn, 1) := by decide +kernel
theorem dX4_tell_0 : decode cX4_tell 0 = .ok (.iload_n 1, 1) := by decide +kernel
theorem dX4_tell_1 : decode cX4_tell 1 = .ok (.tableswitch 135 0 12 #[67, 75, 80, 85, 90, 95, 100, 105, 110, 115, 120, 125, 130], 67) := by decide +kernel
theorem dX4_tell_68 : decode cX4_tell 68 = .ok (.aload_n 0, 1) := by decide +kernel
theorem dX4_tell_69 : decode cX4_tell 69 = .ok (.getfield 33, 3) := by decide +kernel
theorem dX4_tell_72 : decode cX4_tell 72 = .ok (.getfield 56, 3) := by decide +kernel
theorem dX4_tell_75 : decode cX4_tell 75 = .ok (.ireturn, 1) := by decide +kernel
theorem dX4_tell_76 : decode cX4_tell 76 = .ok (.aload_n 0, 1) := by decide +kernel
theorem dX4_tell_77 : decode cX4_tell 77 = .ok (.getfield 37, 3) := by decide +kernel
theorem dX4_tell_80 : decode cX4_tell 80 = .ok (.ireturn, 1) := by decide +kernel
theorem dX4_tell_81 : decode cX4_tell 81 = .ok (.aload_n 0, 1) := by decide +kernel
theorem dX4_tell_82 : decode cX4_tell 82 = .ok (.getfield 40, 3) := by decide +kernel
theorem dX4_tell_85 : decode cX4_tell 85 = .ok (.ireturn, 1) := by decide +kernel
theorem dX4_tell_86 : decode cX4_tell 86 = .ok (.aload_n 0, 1) := by decide +kernel
theorem dX4_tell_87 : decode cX4_tell 87 = .ok (.getfield 43, 3) := by decide +kernel
theorem dX4_tell_90 : decode cX4_tell 90 = .ok (.ireturn, 1) := by decide +kernel
theorem dX4_tell_91 : decode cX4_tell 91 = .ok (.aload_n 0, 1) := by decide +kernel
theorem dX4_tell_92 : decode cX4_tell 92 = .ok (.getfield 9, 3) := by decide +kernel
theorem dX4_tell_95 : decode cX4_tell 95 = .ok (.ireturn, 1) := by decide +kernel
theorem dX4_tell_96 : decode cX4_tell 96 = .ok (.aload_n 0, 1) := by decide +kernel
theorem dX4_tell_97 : decode cX4_tell 97 = .ok (.getfield 15, 3) := by decide +kernel
theorem dX4_tell_100 : decode cX4_tell 100 = .ok (.ireturn, 1) := by decide +kernel
theorem dX4_tell_101 : decode cX4_tell 101 = .ok (.aload_n 0, 1) := by decide +kernel
theorem dX4_tell_102 : decode cX4_tell 102 = .ok (.getfield 18, 3) := by decide +kernel
theorem dX4_tell_105 : decode cX4_tell 105 = .ok (.ireturn, 1) := by decide +kernel
theorem dX4_tell_106 : decode cX4_tell 106 = .ok (.aload_n 0, 1) := by decide +kernel
theorem dX4_tell_107 : decode cX4_tell 107 = .ok (.getfield 21, 3) := by decide +kernel
theorem dX4_tell_110 : decode cX4_tell 110 = .ok (.ireturn, 1) := by decide +kernel
theorem dX4_tell_111 : decode cX4_tell 111 = .ok (.aload_n 0, 1) := by decide +kernel
theorem dX4_tell_112 : decode cX4_tell 112 = .ok (.getfield 24, 3) := by decide +kernel
theorem dX4_tell_115 : decode cX4_tell 115 = .ok (.ireturn, 1) := by decide +kernel
theorem dX4_tell_116 : decode cX4_tell 116 = .ok (.aload_n 0, 1) := by decide +kernel
theorem dX4_tell_117 : decode cX4_tell 117 = .ok (.getfield 27, 3) := by decide +kernel
theorem dX4_tell_120 : decode cX4_tell 120 = .ok (.ireturn, 1) := by decide +kernel
theorem dX4_tell_121 : decode cX4_tell 121 = .ok (.aload_n 0, 1) := by decide +kernel
theorem dX4_tell_122 : decode cX4_tell 122 = .ok (.getfield 46, 3) := by decide +kernel
theorem dX4_tell_125 : decode cX4_tell 125 = .ok (.ireturn, 1) := by decide +kernel
theorem dX4_tell_126 : decode cX4_tell 126 = .ok (.aload_n 0, 1) := by decide +kernel
theorem dX4_tell_127 : decode cX4_tell 127 = .ok (.getfield 57, 3) := by decide +kernel
theorem dX4_tell_130 : decode cX4_tell 130 = .ok (.ireturn, 1) := by decide +kernel
theorem dX4_tell_131 : decode cX4_tell 131 = .ok (.aload_n 0, 1) := by decide +kernel
theorem dX4_tell_132 : decode cX4_tell 132 = .ok (.getfield 60, 3) := by decide +kernel
theorem dX4_tell_135 : decode cX4_tell 135 = .ok (.ireturn, 1) := by decide +kernel
theorem dX4_tell_136 : decode cX4_tell 136 = .ok (.iconst (-1), 1) := by decide +kernel
theorem dX4_tell_137 : decode cX4_tell 137 = .ok (.ireturn, 1) := by decide +kernel
theorem dX5_init_0 : decode cX5_init 0 = .ok (.aload_n 0, 1) := by decide +kernel
theorem dX5_init_1 : decode cX5_init 1 = .ok (.invokespecial 1, 3) := by decide +kernel
theorem dX5_init_4 : decode cX5_init 4 = .ok (.aload_n 0, 1) := by decide +kernel
theorem dX5_init_5 : decode cX5_init 5 = .ok (.bipush 12, 2) := by decide +kernel
theorem dX5_init_7 : decode cX5_init 7 = .ok (.anewarray 9, 3) := by decide +kernel
theorem dX5_init_10 : decode cX5_init 10 = .ok (.putfield 11, 3) := by decide +kernel
theorem dX5_init_13 : decode cX5_init 13 = .ok (.aload_n 0, 1) := by decide +kernel
theorem dX5_init_14 : decode cX5_init 14 = .ok (.bipush 120, 2) := by decide +kernel
theorem dX5_init_16 : decode cX5_init 16 = .ok (.anewarray 15, 3) := by decide +kernel
theorem dX5_init_19 : decode cX5_init 19 = .ok (.putfield 17, 3) := by decide +kernel
theorem dX5_init_22 : decode cX5_init 22 = .ok (.aload_n 0, 1) := by decide +kernel
theorem dX5_init_23 : decode cX5_init 23 = .ok (.bipush 60, 2) := by decide +kernel
theorem dX5_init_25 : decode cX5_init 25 = .ok (.anewarray 21, 3) := by decide +kernel
theorem dX5_init_28 : decode cX5_init 28 = .ok (.putfield 23, 3) := by decide +kernel
theorem dX5_init_31 : decode cX5_init 31 = .ok (.aload_n 0, 1) := by decide +kernel
theorem dX5_init_32 : decode cX5_init 32 = .ok (.sipush 400, 3) := by decide +kernel
theorem dX5_init_35 : decode cX5_init 35 = .ok (.anewarray 27, 3) := by decide +kernel
theorem dX5_init_38 : decode cX5_init 38 = .ok (.putfield 29, 3) := by decide +kernel
theorem dX5_init_41 : decode cX5_init 41 = .ok (.aload_n 0, 1) := by decide +kernel
theorem dX5_init_42 : decode cX5_init 42 = .ok (.sipush 3000, 3) := by decide +kernel
theorem dX5_init_45 : decode cX5_init 45 = .ok (.newarray .int, 2) := by decide +kernel
theorem dX5_init_47 : decode cX5_init 47 = .ok (.putfield 33, 3) := by decide +kernel
theorem dX5_init_50 : decode cX5_init 50 = .ok (.aload_n 0, 1) := by decide +kernel
theorem dX5_init_51 : decode cX5_init 51 = .ok (.sipush 3000, 3) := by decide +kernel
theorem dX5_init_54 : decode cX5_init 54 = .ok (.newarray .int, 2) := by decide +kernel
theorem dX5_init_56 : decode cX5_init 56 = .ok (.putfield 37, 3) := by decide +kernel
theorem dX5_init_59 : decode cX5_init 59 = .ok (.aload_n 0, 1) := by decide +kernel
theorem dX5_init_60 : decode cX5_init 60 = .ok (.sipush 3000, 3) := by decide +kernel
theorem dX5_init_63 : decode cX5_init 63 = .ok (.newarray .int, 2) := by decide +kernel
theorem dX5_init_65 : decode cX5_init 65 = .ok (.putfield 40, 3) := by decide +kernel
theorem dX5_init_68 : decode cX5_init 68 = .ok (.return_, 1) := by decide +kernel
set_option maxRecDepth 20000 in
theorem ggX5_ship_X5_within : GoodIn wsX5_ship wsX5_within := goodIn_r _ [9] (by decide +kernel) (by decide +kernel)
set_option maxRecDepth 20000 in
theorem gX5_ship_X5_within : GoodIn wsX5_ship (va_wsS RX5 47 yX5_within wsX5_within) := goodIn_app (goodIn_of _ (by decide +kernel)) ggX5_ship_X5_within
set_option maxRecDepth 20000 in
theorem ggX5_ship_X3_init : GoodIn wsX5_ship wsX3_init := goodIn_r _ [11, 12, 13, 14, 15, 16, 17, 18, 19, 20, 21, 34, 35, 36, 37, 38, 39, 40, 41] (by decide +kernel) (by decide +kernel)
set_option maxRecDepth 20000 in
theorem gX5_ship_X3_init_n51 : GoodIn wsX5_ship (wsX3_init) := ggX5_ship_X3_init
theorem dX5_ship_0 : decode cX5_ship 0 = .ok (.aload_n 0, 1) := by decide +kernel
theorem dX5_ship_1 : decode cX5_ship 1 = .ok (.getfield 43, 3) := by decide +kernel
theorem dX5_ship_4 : decode cX5_ship 4 = .ok (.aload_n 0, 1) := by decide +kernel
theorem dX5_ship_5 : decode cX5_ship 5 = .ok (.getfield 11, 3) := by decide +kernel
theorem dX5_ship_8 : decode cX5_ship 8 = .ok (.arraylength, 1) := by decide +kernel
theorem dX5_ship_9 : decode cX5_ship 9 = .ok (.if_icmp .ge 34, 3) := by decide +kernel
theorem dX5_ship_12 : decode cX5_ship 12 = .ok (.iload_n 1, 1) := by decide +kernel
theorem dX5_ship_13 : decode cX5_ship 13 = .ok (.iconst 1, 1) := by decide +kernel
theorem dX5_ship_14 : decode cX5_ship 14 = .ok (.iconst 4, 1) := by decide +kernel
theorem dX5_ship_15 : decode cX5_ship 15 = .ok (.invokestatic 47, 3) := by decide +kernel
theorem dX5_ship_18 : decode cX5_ship 18 = .ok (.ifCond .eq 25, 3) := by decide +kernel
theorem dX5_ship_21 : decode cX5_ship 21 = .ok (.iload_n 2, 1) := by decide +kernel
theorem dX5_ship_22 : decode cX5_ship 22 = .ok (.iconst 1, 1) := by decide +kernel
theorem dX5_ship_23 : decode cX5_ship 23 = .ok (.bipush 6, 2) := by decide +kernel
theorem dX5_ship_25 : decode cX5_ship 25 = .ok (.invokestatic 47, 3) := by decide +kernel
theorem dX5_ship_28 : decode cX5_ship 28 = .ok (.ifCond .eq 15, 3) := by decide +kernel
theorem dX5_ship_31 : decode cX5_ship 31 = .ok (.iload_n 3, 1) := by decide +kernel
theorem dX5_ship_32 : decode cX5_ship 32 = .ok (.bipush 50, 2) := by decide +kernel
theorem dX5_ship_34 : decode cX5_ship 34 = .ok (.sipush 2000, 3) := by decide +kernel
theorem dX5_ship_37 : decode cX5_ship 37 = .ok (.invokestatic 47, 3) := by decide +kernel
theorem dX5_ship_40 : decode cX5_ship 40 = .ok (.ifCond .ne 5, 3) := by decide +kernel
theorem dX5_ship_43 : decode cX5_ship 43 = .ok (.iconst (-1), 1) := by decide +kernel
theorem dX5_ship_44 : decode cX5_ship 44 = .ok (.ireturn, 1) := by decide +kernel
theorem dX5_ship_45 : decode cX5_ship 45 = .ok (.iload 4, 2) := by decide +kernel
theorem dX5_ship_47 : decode cX5_ship 47 = .ok (.ifCond .eq 15, 3) := by decide +kernel
theorem dX5_ship_50 : decode cX5_ship 50 = .ok (.iload_n 1, 1) := by decide +kernel
theorem dX5_ship_51 : decode cX5_ship 51 = .ok (.iconst 2, 1) := by decide +kernel
theorem dX5_ship_52 : decode cX5_ship 52 = .ok (.if_icmp .lt 8, 3) := by decide +kernel
theorem dX5_ship_55 : decode cX5_ship 55 = .ok (.iload_n 2, 1) := by decide +kernel
theorem dX5_ship_56 : decode cX5_ship 56 = .ok (.iconst 2, 1) := by decide +kernel
theorem dX5_ship_57 : decode cX5_ship 57 = .ok (.if_icmp .ge 5, 3) := by decide +kernel
theorem dX5_ship_60 : decode cX5_ship 60 = .ok (.iconst (-1), 1) := by decide +kernel
theorem dX5_ship_61 : decode cX5_ship 61 = .ok (.ireturn, 1) := by decide +kernel
theorem dX5_ship_62 : decode cX5_ship 62 = .ok (.aload_n 0, 1) := by decide +kernel
theorem dX5_ship_63 : decode cX5_ship 63 = .ok (.getfield 11, 3) := by decide +kernel
theorem dX5_ship_66 : decode cX5_ship 66 = .ok (.aload_n 0, 1) := by decide +kernel
theorem dX5_ship_67 : decode cX5_ship 67 = .ok (.getfield 43, 3) := by decide +kernel
theorem dX5_ship_70 : decode cX5_ship 70 = .ok (.new 9, 3) := by decide +kernel
theorem dX5_ship_73 : decode cX5_ship 73 = .ok (.dup, 1) := by decide +kernel
theorem dX5_ship_74 : decode cX5_ship 74 = .ok (.aload_n 0, 1) := by decide +kernel
theorem dX5_ship_75 : decode cX5_ship 75 = .ok (.getfield 43, 3) := by decide +kernel
theorem dX5_ship_78 : decode cX5_ship 78 = .ok (.iload_n 1, 1) := by decide +kernel
theorem dX5_ship_79 : decode cX5_ship 79 = .ok (.iload_n 2, 1) := by decide +kernel
theorem dX5_ship_80 : decode cX5_ship 80 = .ok (.iload_n 3, 1) := by decide +kernel
theorem dX5_ship_81 : decode cX5_ship 81 = .ok (.iload 4, 2) := by decide +kernel
theorem dX5_ship_83 : decode cX5_ship 83 = .ok (.invokespecial 51, 3) := by decide +kernel
theorem dX5_ship_86 : decode cX5_ship 86 = .ok (.aastore, 1) := by decide +kernel
theorem dX5_ship_87 : decode cX5_ship 87 = .ok (.aload_n 0, 1) := by decide +kernel
theorem dX5_ship_88 : decode cX5_ship 88 = .ok (.dup, 1) := by decide +kernel
theorem dX5_ship_89 : decode cX5_ship 89 = .ok (.getfield 43, 3) := by decide +kernel
theorem dX5_ship_92 : decode cX5_ship 92 = .ok (.dup_x1, 1) := by decide +kernel
theorem dX5_ship_93 : decode cX5_ship 93 = .ok (.iconst 1, 1) := by decide +kernel
theorem dX5_ship_94 : decode cX5_ship 94 = .ok (.iadd, 1) := by decide +kernel
theorem dX5_ship_95 : decode cX5_ship 95 = .ok (.putfield 43, 3) := by decide +kernel
theorem dX5_ship_98 : decode cX5_ship 98 = .ok (.ireturn, 1) := by decide +kernel
set_option maxRecDepth 20000 in
theorem ggX5_cabin_X5_shipNumbered : GoodIn wsX5_cabin wsX5_shipNumbered := goodIn_r _ [10, 11, 12, 13, 14, 9, 15, 23, 24, 25, 26, 27, 28, 29, 30, 31, 32, 33, 34] (by decide +kernel) (by decide +kernel)
set_option maxRecDepth 20000 in
theorem gX5_cabin_X5_shipNumbered : GoodIn wsX5_cabin (wsV RX5 54 RX5 yX5_shipNumbered wsX5_shipNumbered) := goodIn_app (goodIn_of _ (by decide +kernel)) ggX5_cabin_X5_shipNumbered
set_option maxRecDepth 20000 in
theorem ggX5_cabin_X5_within : GoodIn wsX5_cabin wsX5_within := goodIn_r _ [15] (by decide +kernel) (by decide +kernel)
set_option maxRecDepth 20000 in
theorem gX5_cabin_X5_within : GoodIn wsX5_cabin (va_wsS RX5 47 yX5_within wsX5_within) := goodIn_app (goodIn_of _ (by decide +kernel)) ggX5_cabin_X5_within
set_option maxRecDepth 20000 in
theorem ggX5_cabin_X1_init : GoodIn wsX5_cabin wsX1_init := goodIn_r _ [17, 18, 19, 20, 21, 22, 35, 36, 37] (by decide +kernel) (by decide +kernel)
set_option maxRecDepth 20000 in
theorem gX5_cabin_X1_init_n61 : GoodIn wsX5_cabin (wsX1_init) := ggX5_cabin_X1_init
theorem dX5_cabin_0 : decode cX5_cabin 0 = .ok (.aload_n 0, 1) := by decide +kernel
theorem dX5_cabin_1 : decode cX5_cabin 1 = .ok (.iload_n 1, 1) := by decide +kernel
theorem dX5_cabin_2 : decode cX5_cabin 2 = .ok (.invokevirtual 54, 3) := by decide +kernel
theorem dX5_cabin_5 : decode cX5_cabin 5 = .ok (.astore_n 3, 1) := by decide +kernel
theorem dX5_cabin_6 : decode cX5_cabin 6 = .ok (.aload_n 3, 1) := by decide +kernel
theorem dX5_cabin_7 : decode cX5_cabin 7 = .ok (.ifnull 25, 3) := by decide +kernel
theorem dX5_cabin_10 : decode cX5_cabin 10 = .ok (.aload_n 0, 1) := by decide +kernel
theorem dX5_cabin_11 : decode cX5_cabin 11 = .ok (.getfield 58, 3) := by decide +kernel
theorem dX5_cabin_14 : decode cX5_cabin 14 = .ok (.aload_n 0, 1) := by decide +kernel
theorem dX5_cabin_15 : decode cX5_cabin 15 = .ok (.getfield 17, 3) := by decide +kernel
theorem dX5_cabin_18 : decode cX5_cabin 18 = .ok (.arraylength, 1) := by decide +kernel
theorem dX5_cabin_19 : decode cX5_cabin 19 = .ok (.if_icmp .ge 13, 3) := by decide +kernel
theorem dX5_cabin_22 : decode cX5_cabin 22 = .ok (.iload_n 2, 1) := by decide +kernel
theorem dX5_cabin_23 : decode cX5_cabin 23 = .ok (.iconst 1, 1) := by decide +kernel
theorem dX5_cabin_24 : decode cX5_cabin 24 = .ok (.bipush 6, 2) := by decide +kernel
theorem dX5_cabin_26 : decode cX5_cabin 26 = .ok (.invokestatic 47, 3) := by decide +kernel
theorem dX5_cabin_29 : decode cX5_cabin 29 = .ok (.ifCond .ne 5, 3) := by decide +kernel
theorem dX5_cabin_32 : decode cX5_cabin 32 = .ok (.iconst (-1), 1) := by decide +kernel
theorem dX5_cabin_33 : decode cX5_cabin 33 = .ok (.ireturn, 1) := by decide +kernel
theorem dX5_cabin_34 : decode cX5_cabin 34 = .ok (.aload_n 0, 1) := by decide +kernel
theorem dX5_cabin_35 : decode cX5_cabin 35 = .ok (.getfield 17, 3) := by decide +kernel
theorem dX5_cabin_38 : decode cX5_cabin 38 = .ok (.aload_n 0, 1) := by decide +kernel
theorem dX5_cabin_39 : decode cX5_cabin 39 = .ok (.getfield 58, 3) := by decide +kernel
theorem dX5_cabin_42 : decode cX5_cabin 42 = .ok (.new 15, 3) := by decide +kernel
theorem dX5_cabin_45 : decode cX5_cabin 45 = .ok (.dup, 1) := by decide +kernel
theorem dX5_cabin_46 : decode cX5_cabin 46 = .ok (.aload_n 3, 1) := by decide +kernel
theorem dX5_cabin_47 : decode cX5_cabin 47 = .ok (.iload_n 2, 1) := by decide +kernel
theorem dX5_cabin_48 : decode cX5_cabin 48 = .ok (.invokespecial 61, 3) := by decide +kernel
theorem dX5_cabin_51 : decode cX5_cabin 51 = .ok (.aastore, 1) := by decide +kernel
theorem dX5_cabin_52 : decode cX5_cabin 52 = .ok (.aload_n 3, 1) := by decide +kernel
theorem dX5_cabin_53 : decode cX5_cabin 53 = .ok (.dup, 1) := by decide +kernel
theorem dX5_cabin_54 : decode cX5_cabin 54 = .ok (.getfield 64, 3) := by decide +kernel
theorem dX5_cabin_57 : decode cX5_cabin 57 = .ok (.iconst 1, 1) := by decide +kernel
theorem dX5_cabin_58 : decode cX5_cabin 58 = .ok (.iadd, 1) := by decide +kernel
theorem dX5_cabin_59 : decode cX5_cabin 59 = .ok (.putfield 64, 3) := by decide +kernel
theorem dX5_cabin_62 : decode cX5_cabin 62 = .ok (.aload_n 0, 1) := by decide +kernel
theorem dX5_cabin_63 : decode cX5_cabin 63 = .ok (.dup, 1) := by decide +kernel
theorem dX5_cabin_64 : decode cX5_cabin 64 = .ok (.getfield 58, 3) := by decide +kernel
theorem dX5_cabin_67 : decode cX5_cabin 67 = .ok (.dup_x1, 1) := by decide +kernel
theorem dX5_cabin_68 : decode cX5_cabin 68 = .ok (.iconst 1, 1) := by decide +kernel
theorem dX5_cabin_69 : decode cX5_cabin 69 = .ok (.iadd, 1) := by decide +kernel
theorem dX5_cabin_70 : decode cX5_cabin 70 = .ok (.putfield 58, 3) := by decide +kernel
theorem dX5_cabin_73 : decode cX5_cabin 73 = .ok (.ireturn, 1) := by decide +kernel
set_option maxRecDepth 20000 in
theorem ggX5_sailing_X5_shipNumbered : GoodIn wsX5_sailing wsX5_shipNumbered := goodIn_r _ [11, 12, 13, 14, 15, 10, 16, 36, 37, 38, 39, 40, 41, 42, 43, 44, 45, 46, 47] (by decide +kernel) (by decide +kernel)
set_option maxRecDepth 20000 in
theorem gX5_sailing_X5_shipNumbered : GoodIn wsX5_sailing (wsV RX5 54 RX5 yX5_shipNumbered wsX5_shipNumbered) := goodIn_app (goodIn_of _ (by decide +kernel)) ggX5_sailing_X5_shipNumbered
set_option maxRecDepth 20000 in
theorem ggX5_sailing_X5_within : GoodIn wsX5_sailing wsX5_within := goodIn_r _ [16] (by decide +kernel) (by decide +kernel)
set_option maxRecDepth 20000 in
theorem gX5_sailing_X5_within : GoodIn wsX5_sailing (va_wsS RX5 47 yX5_within wsX5_within) := goodIn_app (goodIn_of _ (by decide +kernel)) ggX5_sailing_X5_within
set_option maxRecDepth 20000 in
theorem ggX5_sailing_X5_liesTooNear : GoodIn wsX5_sailing wsX5_liesTooNear := goodIn_r _ [20, 1, 2, 21, 22, 23, 24, 36, 37, 38, 39, 40, 41, 42, 43, 44, 45, 46, 47, 48, 49, 50, 51, 52, 53, 54, 55, 56] (by decide +kernel) (by decide +kernel)
set_option maxRecDepth 20000 in
theorem gX5_sailing_X5_liesTooNear : GoodIn wsX5_sailing (wsV RX5 69 RX5 yX5_liesTooNear wsX5_liesTooNear) := goodIn_app (goodIn_of _ (by decide +kernel)) ggX5_sailing_X5_liesTooNear
set_option maxRecDepth 20000 in
theorem ggX5_sailing_X2_init : GoodIn wsX5_sailing wsX2_init := goodIn_r _ [26, 27, 28, 29, 30, 31, 32, 33, 34, 35, 48, 49, 50, 51, 52, 53, 54, 55, 56] (by decide +kernel) (by decide +kernel)
set_option maxRecDepth 20000 in
theorem gX5_sailing_X2_init_n73 : GoodIn wsX5_sailing (wsX2_init) := ggX5_sailing_X2_init
theorem dX5_sailing_0 : decode cX5_sailing 0 = .ok (.aload_n 0, 1) := by decide +kernel
theorem dX5_sailing_1 : decode cX5_sailing 1 = .ok (.iload_n 1, 1) := by decide +kernel
theorem dX5_sailing_2 : decode cX5_sailing 2 = .ok (.invokevirtual 54, 3) := by decide +kernel
theorem dX5_sailing_5 : decode cX5_sailing 5 = .ok (.astore 4, 2) := by decide +kernel
theorem dX5_sailing_7 : decode cX5_sailing 7 = .ok (.aload 4, 2) := by decide +kernel
theorem dX5_sailing_9 : decode cX5_sailing 9 = .ok (.ifnull 35, 3) := by decide +kernel
theorem dX5_sailing_12 : decode cX5_sailing 12 = .ok (.aload_n 0, 1) := by decide +kernel
theorem dX5_sailing_13 : decode cX5_sailing 13 = .ok (.getfield 65, 3) := by decide +kernel
theorem dX5_sailing_16 : decode cX5_sailing 16 = .ok (.aload_n 0, 1) := by decide +kernel
theorem dX5_sailing_17 : decode cX5_sailing 17 = .ok (.getfield 23, 3) := by decide +kernel
theorem dX5_sailing_20 : decode cX5_sailing 20 = .ok (.arraylength, 1) := by decide +kernel
theorem dX5_sailing_21 : decode cX5_sailing 21 = .ok (.if_icmp .ge 23, 3) := by decide +kernel
theorem dX5_sailing_24 : decode cX5_sailing 24 = .ok (.iload_n 2, 1) := by decide +kernel
theorem dX5_sailing_25 : decode cX5_sailing 25 = .ok (.iconst 0, 1) := by decide +kernel
theorem dX5_sailing_26 : decode cX5_sailing 26 = .ok (.ldc 68, 2) := by decide +kernel
theorem dX5_sailing_28 : decode cX5_sailing 28 = .ok (.invokestatic 47, 3) := by decide +kernel
theorem dX5_sailing_31 : decode cX5_sailing 31 = .ok (.ifCond .eq 13, 3) := by decide +kernel
theorem dX5_sailing_34 : decode cX5_sailing 34 = .ok (.iload_n 3, 1) := by decide +kernel
theorem dX5_sailing_35 : decode cX5_sailing 35 = .ok (.iconst 0, 1) := by decide +kernel
theorem dX5_sailing_36 : decode cX5_sailing 36 = .ok (.bipush 7, 2) := by decide +kernel
theorem dX5_sailing_38 : decode cX5_sailing 38 = .ok (.invokestatic 47, 3) := by decide +kernel
theorem dX5_sailing_41 : decode cX5_sailing 41 = .ok (.ifCond .ne 5, 3) := by decide +kernel
theorem dX5_sailing_44 : decode cX5_sailing 44 = .ok (.iconst (-1), 1) := by decide +kernel
theorem dX5_sailing_45 : decode cX5_sailing 45 = .ok (.ireturn, 1) := by decide +kernel
theorem dX5_sailing_46 : decode cX5_sailing 46 = .ok (.aload_n 0, 1) := by decide +kernel
theorem dX5_sailing_47 : decode cX5_sailing 47 = .ok (.aload 4, 2) := by decide +kernel
theorem dX5_sailing_49 : decode cX5_sailing 49 = .ok (.iload_n 2, 1) := by decide +kernel
theorem dX5_sailing_50 : decode cX5_sailing 50 = .ok (.invokevirtual 69, 3) := by decide +kernel
theorem dX5_sailing_53 : decode cX5_sailing 53 = .ok (.ifCond .eq 5, 3) := by decide +kernel
theorem dX5_sailing_56 : decode cX5_sailing 56 = .ok (.iconst (-1), 1) := by decide +kernel
theorem dX5_sailing_57 : decode cX5_sailing 57 = .ok (.ireturn, 1) := by decide +kernel
theorem dX5_sailing_58 : decode cX5_sailing 58 = .ok (.aload_n 0, 1) := by decide +kernel
theorem dX5_sailing_59 : decode cX5_sailing 59 = .ok (.getfield 23, 3) := by decide +kernel
theorem dX5_sailing_62 : decode cX5_sailing 62 = .ok (.aload_n 0, 1) := by decide +kernel
theorem dX5_sailing_63 : decode cX5_sailing 63 = .ok (.getfield 65, 3) := by decide +kernel
theorem dX5_sailing_66 : decode cX5_sailing 66 = .ok (.new 21, 3) := by decide +kernel
theorem dX5_sailing_69 : decode cX5_sailing 69 = .ok (.dup, 1) := by decide +kernel
theorem dX5_sailing_70 : decode cX5_sailing 70 = .ok (.aload_n 0, 1) := by decide +kernel
theorem dX5_sailing_71 : decode cX5_sailing 71 = .ok (.getfield 65, 3) := by decide +kernel
theorem dX5_sailing_74 : decode cX5_sailing 74 = .ok (.aload 4, 2) := by decide +kernel
theorem dX5_sailing_76 : decode cX5_sailing 76 = .ok (.iload_n 2, 1) := by decide +kernel
theorem dX5_sailing_77 : decode cX5_sailing 77 = .ok (.iload_n 3, 1) := by decide +kernel
theorem dX5_sailing_78 : decode cX5_sailing 78 = .ok (.invokespecial 73, 3) := by decide +kernel
theorem dX5_sailing_81 : decode cX5_sailing 81 = .ok (.aastore, 1) := by decide +kernel
theorem dX5_sailing_82 : decode cX5_sailing 82 = .ok (.aload_n 0, 1) := by decide +kernel
theorem dX5_sailing_83 : decode cX5_sailing 83 = .ok (.dup, 1) := by decide +kernel
theorem dX5_sailing_84 : decode cX5_sailing 84 = .ok (.getfield 65, 3) := by decide +kernel
theorem dX5_sailing_87 : decode cX5_sailing 87 = .ok (.dup_x1, 1) := by decide +kernel
theorem dX5_sailing_88 : decode cX5_sailing 88 = .ok (.iconst 1, 1) := by decide +kernel
theorem dX5_sailing_89 : decode cX5_sailing 89 = .ok (.iadd, 1) := by decide +kernel
theorem dX5_sailing_90 : decode cX5_sailing 90 = .ok (.putfield 65, 3) := by decide +kernel
theorem dX5_sailing_93 : decode cX5_sailing 93 = .ok (.ireturn, 1) := by decide +kernel
theorem dX5_liesTooNear_0 : decode cX5_liesTooNear 0 = .ok (.iconst 0, 1) := by decide +kernel
theorem dX5_liesTooNear_1 : decode cX5_liesTooNear 1 = .ok (.istore_n 3, 1) := by decide +kernel
theorem dX5_liesTooNear_2 : decode cX5_liesTooNear 2 = .ok (.iload_n 3, 1) := by decide +kernel
theorem dX5_liesTooNear_3 : decode cX5_liesTooNear 3 = .ok (.aload_n 0, 1) := by decide +kernel
theorem dX5_liesTooNear_4 : decode cX5_liesTooNear 4 = .ok (.getfield 65, 3) := by decide +kernel
theorem dX5_liesTooNear_7 : decode cX5_liesTooNear 7 = .ok (.if_icmp .ge 52, 3) := by decide +kernel
theorem dX5_liesTooNear_10 : decode cX5_liesTooNear 10 = .ok (.aload_n 0, 1) := by decide +kernel
theorem dX5_liesTooNear_11 : decode cX5_liesTooNear 11 = .ok (.getfield 23, 3) := by decide +kernel
theorem dX5_liesTooNear_14 : decode cX5_liesTooNear 14 = .ok (.iload_n 3, 1) := by decide +kernel
theorem dX5_liesTooNear_15 : decode cX5_liesTooNear 15 = .ok (.aaload, 1) := by decide +kernel
theorem dX5_liesTooNear_16 : decode cX5_liesTooNear 16 = .ok (.astore 4, 2) := by decide +kernel
theorem dX5_liesTooNear_18 : decode cX5_liesTooNear 18 = .ok (.aload 4, 2) := by decide +kernel
theorem dX5_liesTooNear_20 : decode cX5_liesTooNear 20 = .ok (.getfield 76, 3) := by decide +kernel
theorem dX5_liesTooNear_23 : decode cX5_liesTooNear 23 = .ok (.aload_n 1, 1) := by decide +kernel
theorem dX5_liesTooNear_24 : decode cX5_liesTooNear 24 = .ok (.if_acmp .ne 29, 3) := by decide +kernel
theorem dX5_liesTooNear_27 : decode cX5_liesTooNear 27 = .ok (.aload 4, 2) := by decide +kernel
theorem dX5_liesTooNear_29 : decode cX5_liesTooNear 29 = .ok (.getfield 80, 3) := by decide +kernel
theorem dX5_liesTooNear_32 : decode cX5_liesTooNear 32 = .ok (.iconst 3, 1) := by decide +kernel
theorem dX5_liesTooNear_33 : decode cX5_liesTooNear 33 = .ok (.if_icmp .eq 20, 3) := by decide +kernel
theorem dX5_liesTooNear_36 : decode cX5_liesTooNear 36 = .ok (.aload 4, 2) := by decide +kernel
theorem dX5_liesTooNear_38 : decode cX5_liesTooNear 38 = .ok (.getfield 83, 3) := by decide +kernel
theorem dX5_liesTooNear_41 : decode cX5_liesTooNear 41 = .ok (.iload_n 2, 1) := by decide +kernel
theorem dX5_liesTooNear_42 : decode cX5_liesTooNear 42 = .ok (.isub, 1) := by decide +kernel
theorem dX5_liesTooNear_43 : decode cX5_liesTooNear 43 = .ok (.invokestatic 86, 3) := by decide +kernel
theorem dX5_liesTooNear_46 : decode cX5_liesTooNear 46 = .ok (.bipush 90, 2) := by decide +kernel
theorem dX5_liesTooNear_48 : decode cX5_liesTooNear 48 = .ok (.if_icmp .ge 5, 3) := by decide +kernel
theorem dX5_liesTooNear_51 : decode cX5_liesTooNear 51 = .ok (.iconst 1, 1) := by decide +kernel
theorem dX5_liesTooNear_52 : decode cX5_liesTooNear 52 = .ok (.ireturn, 1) := by decide +kernel
theorem dX5_liesTooNear_53 : decode cX5_liesTooNear 53 = .ok (.iinc 3 1, 3) := by decide +kernel
theorem dX5_liesTooNear_56 : decode cX5_liesTooNear 56 = .ok (.goto (-54), 3) := by decide +kernel
theorem dX5_liesTooNear_59 : decode cX5_liesTooNear 59 = .ok (.iconst 0, 1) := by decide +kernel
theorem dX5_liesTooNear_60 : decode cX5_liesTooNear 60 = .ok (.ireturn, 1) := by decide +kernel
set_option maxRecDepth 20000 in
theorem ggX5_book_X5_sailingNumbered : GoodIn wsX5_book wsX5_sailingNumbered := goodIn_r _ [10, 11, 12, 13, 14, 9, 15, 46, 47, 48, 49, 50, 51, 52, 53, 54, 55, 56, 57] (by decide +kernel) (by decide +kernel)
set_option maxRecDepth 20000 in
theorem gX5_book_X5_sailingNumbered : GoodIn wsX5_book (wsV RX5 92 RX5 yX5_sailingNumbered wsX5_sailingNumbered) := goodIn_app (goodIn_of _ (by decide +kernel)) ggX5_book_X5_sailingNumbered
set_option maxRecDepth 20000 in
theorem ggX5_book_X2_takesTickets : GoodIn wsX5_book wsX2_takesTickets := goodIn_r _ [19, 20, 21, 22, 23, 17, 24, 25, 58, 59, 60, 61, 62, 63, 64, 65, 66] (by decide +kernel) (by decide +kernel)
set_option maxRecDepth 20000 in
theorem gX5_book_X2_takesTickets_n96 : GoodIn wsX5_book (wsX2_takesTickets) := ggX5_book_X2_takesTickets
set_option maxRecDepth 20000 in
theorem ggX5_book_X5_within : GoodIn wsX5_book wsX5_within := goodIn_r _ [15] (by decide +kernel) (by decide +kernel)
set_option maxRecDepth 20000 in
theorem gX5_book_X5_within : GoodIn wsX5_book (va_wsS RX5 47 yX5_within wsX5_within) := goodIn_app (goodIn_of _ (by decide +kernel)) ggX5_book_X5_within
set_option maxRecDepth 20000 in
theorem ggX5_book_X5_fare : GoodIn wsX5_book wsX5_fare := goodIn_r _ [28] (by decide +kernel) (by decide +kernel)
set_option maxRecDepth 20000 in
theorem gX5_book_X5_fare : GoodIn wsX5_book (va_wsS RX5 109 yX5_fare wsX5_fare) := goodIn_app (goodIn_of _ (by decide +kernel)) ggX5_book_X5_fare
set_option maxRecDepth 20000 in
theorem ggX5_book_X4_init : GoodIn wsX5_book wsX4_init := goodIn_r _ [30, 31, 32, 33, 34, 35, 36, 37, 38, 39, 40, 41, 42, 43, 44, 45, 75, 76, 77, 78, 79, 80, 81, 82, 83, 84, 85, 86, 87, 88, 89, 90] (by decide +kernel) (by decide +kernel)
set_option maxRecDepth 20000 in
theorem gX5_book_X4_init_n113 : GoodIn wsX5_book (wsX4_init) := ggX5_book_X4_init
theorem dX5_book_0 : decode cX5_book 0 = .ok (.aload_n 0, 1) := by decide +kernel
theorem dX5_book_1 : decode cX5_book 1 = .ok (.iload_n 1, 1) := by decide +kernel
theorem dX5_book_2 : decode cX5_book 2 = .ok (.invokevirtual 92, 3) := by decide +kernel
theorem dX5_book_5 : decode cX5_book 5 = .ok (.astore 5, 2) := by decide +kernel
theorem dX5_book_7 : decode cX5_book 7 = .ok (.aload 5, 2) := by decide +kernel
theorem dX5_book_9 : decode cX5_book 9 = .ok (.ifnull 23, 3) := by decide +kernel
theorem dX5_book_12 : decode cX5_book 12 = .ok (.aload 5, 2) := by decide +kernel
theorem dX5_book_14 : decode cX5_book 14 = .ok (.invokevirtual 96, 3) := by decide +kernel
theorem dX5_book_17 : decode cX5_book 17 = .ok (.ifCond .eq 15, 3) := by decide +kernel
theorem dX5_book_20 : decode cX5_book 20 = .ok (.aload_n 0, 1) := by decide +kernel
theorem dX5_book_21 : decode cX5_book 21 = .ok (.getfield 100, 3) := by decide +kernel
theorem dX5_book_24 : decode cX5_book 24 = .ok (.aload_n 0, 1) := by decide +kernel
theorem dX5_book_25 : decode cX5_book 25 = .ok (.getfield 29, 3) := by decide +kernel
theorem dX5_book_28 : decode cX5_book 28 = .ok (.arraylength, 1) := by decide +kernel
theorem dX5_book_29 : decode cX5_book 29 = .ok (.if_icmp .lt 5, 3) := by decide +kernel
theorem dX5_book_32 : decode cX5_book 32 = .ok (.iconst (-1), 1) := by decide +kernel
theorem dX5_book_33 : decode cX5_book 33 = .ok (.ireturn, 1) := by decide +kernel
theorem dX5_book_34 : decode cX5_book 34 = .ok (.iload_n 2, 1) := by decide +kernel
theorem dX5_book_35 : decode cX5_book 35 = .ok (.bipush 20, 2) := by decide +kernel
theorem dX5_book_37 : decode cX5_book 37 = .ok (.sipush 250, 3) := by decide +kernel
theorem dX5_book_40 : decode cX5_book 40 = .ok (.invokestatic 47, 3) := by decide +kernel
theorem dX5_book_43 : decode cX5_book 43 = .ok (.ifCond .eq 35, 3) := by decide +kernel
theorem dX5_book_46 : decode cX5_book 46 = .ok (.iload_n 3, 1) := by decide +kernel
theorem dX5_book_47 : decode cX5_book 47 = .ok (.iconst 0, 1) := by decide +kernel
theorem dX5_book_48 : decode cX5_book 48 = .ok (.iconst 2, 1) := by decide +kernel
theorem dX5_book_49 : decode cX5_book 49 = .ok (.invokestatic 47, 3) := by decide +kernel
theorem dX5_book_52 : decode cX5_book 52 = .ok (.ifCond .eq 26, 3) := by decide +kernel
theorem dX5_book_55 : decode cX5_book 55 = .ok (.iload 4, 2) := by decide +kernel
theorem dX5_book_57 : decode cX5_book 57 = .ok (.iconst 0, 1) := by decide +kernel
theorem dX5_book_58 : decode cX5_book 58 = .ok (.bipush 6, 2) := by decide +kernel
theorem dX5_book_60 : decode cX5_book 60 = .ok (.invokestatic 47, 3) := by decide +kernel
theorem dX5_book_63 : decode cX5_book 63 = .ok (.ifCond .eq 15, 3) := by decide +kernel
theorem dX5_book_66 : decode cX5_book 66 = .ok (.aload 5, 2) := by decide +kernel
theorem dX5_book_68 : decode cX5_book 68 = .ok (.getfield 76, 3) := by decide +kernel
theorem dX5_book_71 : decode cX5_book 71 = .ok (.getfield 103, 3) := by decide +kernel
theorem dX5_book_74 : decode cX5_book 74 = .ok (.iload_n 2, 1) := by decide +kernel
theorem dX5_book_75 : decode cX5_book 75 = .ok (.if_icmp .ge 5, 3) := by decide +kernel
theorem dX5_book_78 : decode cX5_book 78 = .ok (.iconst (-1), 1) := by decide +kernel
theorem dX5_book_79 : decode cX5_book 79 = .ok (.ireturn, 1) := by decide +kernel
theorem dX5_book_80 : decode cX5_book 80 = .ok (.iload_n 2, 1) := by decide +kernel
theorem dX5_book_81 : decode cX5_book 81 = .ok (.iload_n 3, 1) := by decide +kernel
theorem dX5_book_82 : decode cX5_book 82 = .ok (.iload 4, 2) := by decide +kernel
theorem dX5_book_84 : decode cX5_book 84 = .ok (.aload 5, 2) := by decide +kernel
theorem dX5_book_86 : decode cX5_book 86 = .ok (.getfield 106, 3) := by decide +kernel
theorem dX5_book_89 : decode cX5_book 89 = .ok (.invokestatic 109, 3) := by decide +kernel
theorem dX5_book_92 : decode cX5_book 92 = .ok (.istore 6, 2) := by decide +kernel
theorem dX5_book_94 : decode cX5_book 94 = .ok (.aload_n 0, 1) := by decide +kernel
theorem dX5_book_95 : decode cX5_book 95 = .ok (.getfield 29, 3) := by decide +kernel
theorem dX5_book_98 : decode cX5_book 98 = .ok (.aload_n 0, 1) := by decide +kernel
theorem dX5_book_99 : decode cX5_book 99 = .ok (.getfield 100, 3) := by decide +kernel
theorem dX5_book_102 : decode cX5_book 102 = .ok (.new 27, 3) := by decide +kernel
theorem dX5_book_105 : decode cX5_book 105 = .ok (.dup, 1) := by decide +kernel
theorem dX5_book_106 : decode cX5_book 106 = .ok (.aload_n 0, 1) := by decide +kernel
theorem dX5_book_107 : decode cX5_book 107 = .ok (.getfield 100, 3) := by decide +kernel
theorem dX5_book_110 : decode cX5_book 110 = .ok (.aload 5, 2) := by decide +kernel
theorem dX5_book_112 : decode cX5_book 112 = .ok (.iload_n 2, 1) := by decide +kernel
theorem dX5_book_113 : decode cX5_book 113 = .ok (.iload_n 3, 1) := by decide +kernel
theorem dX5_book_114 : decode cX5_book 114 = .ok (.iload 4, 2) := by decide +kernel
theorem dX5_book_116 : decode cX5_book 116 = .ok (.iload 6, 2) := by decide +kernel
theorem dX5_book_118 : decode cX5_book 118 = .ok (.invokespecial 113, 3) := by decide +kernel
theorem dX5_book_121 : decode cX5_book 121 = .ok (.aastore, 1) := by decide +kernel
theorem dX5_book_122 : decode cX5_book 122 = .ok (.aload_n 0, 1) := by decide +kernel
theorem dX5_book_123 : decode cX5_book 123 = .ok (.dup, 1) := by decide +kernel
theorem dX5_book_124 : decode cX5_book 124 = .ok (.getfield 100, 3) := by decide +kernel
theorem dX5_book_127 : decode cX5_book 127 = .ok (.dup_x1, 1) := by decide +kernel
theorem dX5_book_128 : decode cX5_book 128 = .ok (.iconst 1, 1) := by decide +kernel
theorem dX5_book_129 : decode cX5_book 129 = .ok (.iadd, 1) := by decide +kernel
theorem dX5_book_130 : decode cX5_book 130 = .ok (.putfield 100, 3) := by decide +kernel
theorem dX5_book_133 : decode cX5_book 133 = .ok (.ireturn, 1) := by decide +kernel
theorem dX5_fare_0 : decode cX5_fare 0 = .ok (.sipush 500, 3) := by decide +kernel
theorem dX5_fare_3 : decode cX5_fare 3 = .ok (.iconst 3, 1) := by decide +kernel
theorem dX5_fare_4 : decode cX5_fare 4 = .ok (.iload_n 0, 1) := by decide +kernel
theorem dX5_fare_5 : decode cX5_fare 5 = .ok (.imul, 1) := by decide +kernel
theorem dX5_fare_6 : decode cX5_fare 6 = .ok (.iadd, 1) := by decide +kernel
theorem dX5_fare_7 : decode cX5_fare 7 = .ok (.sipush 700, 3) := by decide +kernel
theorem dX5_fare_10 : decode cX5_fare 10 = .ok (.iload_n 1, 1) := by decide +kernel
theorem dX5_fare_11 : decode cX5_fare 11 = .ok (.imul, 1) := by decide +kernel
theorem dX5_fare_12 : decode cX5_fare 12 = .ok (.iadd, 1) := by decide +kernel
theorem dX5_fare_13 : decode cX5_fare 13 = .ok (.sipush 1500, 3) := by decide +kernel
theorem dX5_fare_16 : decode cX5_fare 16 = .ok (.iload_n 2, 1) := by decide +kernel
theorem dX5_fare_17 : decode cX5_fare 17 = .ok (.imul, 1) := by decide +kernel
theorem dX5_fare_18 : decode cX5_fare 18 = .ok (.iadd, 1) := by decide +kernel
theorem dX5_fare_19 : decode cX5_fare 19 = .ok (.istore 4, 2) := by decide +kernel
theorem dX5_fare_21 : decode cX5_fare 21 = .ok (.iload 4, 2) := by decide +kernel
theorem dX5_fare_23 : decode cX5_fare 23 = .ok (.bipush 100, 2) := by decide +kernel
theorem dX5_fare_25 : decode cX5_fare 25 = .ok (.iconst 5, 1) := by decide +kernel
theorem dX5_fare_26 : decode cX5_fare 26 = .ok (.iload_n 3, 1) := by decide +kernel
theorem dX5_fare_27 : decode cX5_fare 27 = .ok (.imul, 1) := by decide +kernel
theorem dX5_fare_28 : decode cX5_fare 28 = .ok (.iadd, 1) := by decide +kernel
theorem dX5_fare_29 : decode cX5_fare 29 = .ok (.imul, 1) := by decide +kernel
theorem dX5_fare_30 : decode cX5_fare 30 = .ok (.bipush 50, 2) := by decide +kernel
theorem dX5_fare_32 : decode cX5_fare 32 = .ok (.iadd, 1) := by decide +kernel
theorem dX5_fare_33 : decode cX5_fare 33 = .ok (.bipush 100, 2) := by decide +kernel
theorem dX5_fare_35 : decode cX5_fare 35 = .ok (.idiv, 1) := by decide +kernel
theorem dX5_fare_36 : decode cX5_fare 36 = .ok (.ireturn, 1) := by decide +kernel
set_option maxRecDepth 20000 in
theorem ggX5_arrive_X5_ticketNumbered : GoodIn wsX5_arrive wsX5_ticketNumbered := goodIn_r _ [6, 7, 8, 9, 10, 5, 11, 33, 34, 35, 36, 37, 38, 39, 40, 41, 42, 43, 44] (by decide +kernel) (by decide +kernel)
set_option maxRecDepth 20000 in
theorem gX5_arrive_X5_ticketNumbered : GoodIn wsX5_arrive (wsV RX5 116 RX5 yX5_ticketNumbered wsX5_ticketNumbered) := goodIn_app (goodIn_of _ (by decide +kernel)) ggX5_arrive_X5_ticketNumbered
set_option maxRecDepth 20000 in
theorem ggX5_arrive_X5_within : GoodIn wsX5_arrive wsX5_within := goodIn_r _ [11] (by decide +kernel) (by decide +kernel)
set_option maxRecDepth 20000 in
theorem gX5_arrive_X5_within : GoodIn wsX5_arrive (va_wsS RX5 47 yX5_within wsX5_within) := goodIn_app (goodIn_of _ (by decide +kernel)) ggX5_arrive_X5_within
set_option maxRecDepth 20000 in
theorem ggX5_arrive_X2_isPlannedOrOpen : GoodIn wsX5_arrive wsX2_isPlannedOrOpen := goodIn_r _ [15, 16, 45, 46, 47, 48, 49, 50, 51, 52, 53] (by decide +kernel) (by decide +kernel)
set_option maxRecDepth 20000 in
theorem gX5_arrive_X2_isPlannedOrOpen_n126 : GoodIn wsX5_arrive (wsX2_isPlannedOrOpen) := ggX5_arrive_X2_isPlannedOrOpen
theorem dX5_arrive_0 : decode cX5_arrive 0 = .ok (.aload_n 0, 1) := by decide +kernel
theorem dX5_arrive_1 : decode cX5_arrive 1 = .ok (.iload_n 1, 1) := by decide +kernel
theorem dX5_arrive_2 : decode cX5_arrive 2 = .ok (.invokevirtual 116, 3) := by decide +kernel
theorem dX5_arrive_5 : decode cX5_arrive 5 = .ok (.astore_n 3, 1) := by decide +kernel
theorem dX5_arrive_6 : decode cX5_arrive 6 = .ok (.aload_n 3, 1) := by decide +kernel
theorem dX5_arrive_7 : decode cX5_arrive 7 = .ok (.ifnull 30, 3) := by decide +kernel
theorem dX5_arrive_10 : decode cX5_arrive 10 = .ok (.aload_n 3, 1) := by decide +kernel
theorem dX5_arrive_11 : decode cX5_arrive 11 = .ok (.getfield 120, 3) := by decide +kernel
theorem dX5_arrive_14 : decode cX5_arrive 14 = .ok (.ifCond .ne 23, 3) := by decide +kernel
theorem dX5_arrive_17 : decode cX5_arrive 17 = .ok (.iload_n 2, 1) := by decide +kernel
theorem dX5_arrive_18 : decode cX5_arrive 18 = .ok (.iconst 0, 1) := by decide +kernel
theorem dX5_arrive_19 : decode cX5_arrive 19 = .ok (.ldc 121, 2) := by decide +kernel
theorem dX5_arrive_21 : decode cX5_arrive 21 = .ok (.invokestatic 47, 3) := by decide +kernel
theorem dX5_arrive_24 : decode cX5_arrive 24 = .ok (.ifCond .eq 13, 3) := by decide +kernel
theorem dX5_arrive_27 : decode cX5_arrive 27 = .ok (.aload_n 3, 1) := by decide +kernel
theorem dX5_arrive_28 : decode cX5_arrive 28 = .ok (.getfield 122, 3) := by decide +kernel
theorem dX5_arrive_31 : decode cX5_arrive 31 = .ok (.invokevirtual 126, 3) := by decide +kernel
theorem dX5_arrive_34 : decode cX5_arrive 34 = .ok (.ifCond .ne 5, 3) := by decide +kernel
theorem dX5_arrive_37 : decode cX5_arrive 37 = .ok (.iconst 0, 1) := by decide +kernel
theorem dX5_arrive_38 : decode cX5_arrive 38 = .ok (.ireturn, 1) := by decide +kernel
theorem dX5_arrive_39 : decode cX5_arrive 39 = .ok (.aload_n 3, 1) := by decide +kernel
theorem dX5_arrive_40 : decode cX5_arrive 40 = .ok (.iconst 1, 1) := by decide +kernel
theorem dX5_arrive_41 : decode cX5_arrive 41 = .ok (.putfield 120, 3) := by decide +kernel
theorem dX5_arrive_44 : decode cX5_arrive 44 = .ok (.aload_n 3, 1) := by decide +kernel
theorem dX5_arrive_45 : decode cX5_arrive 45 = .ok (.iload_n 2, 1) := by decide +kernel
theorem dX5_arrive_46 : decode cX5_arrive 46 = .ok (.putfield 129, 3) := by decide +kernel
theorem dX5_arrive_49 : decode cX5_arrive 49 = .ok (.iconst 1, 1) := by decide +kernel
theorem dX5_arrive_50 : decode cX5_arrive 50 = .ok (.ireturn, 1) := by decide +kernel
set_option maxRecDepth 20000 in
theorem ggX5_open_X5_sailingNumbered : GoodIn wsX5_open wsX5_sailingNumbered := goodIn_r _ [5, 6, 7, 8, 9, 4, 10, 24, 25, 26, 27, 28, 29, 30, 31, 32, 33, 34, 35] (by decide +kernel) (by decide +kernel)
set_option maxRecDepth 20000 in
theorem gX5_open_X5_sailingNumbered : GoodIn wsX5_open (wsV RX5 92 RX5 yX5_sailingNumbered wsX5_sailingNumbered) := goodIn_app (goodIn_of _ (by decide +kernel)) ggX5_open_X5_sailingNumbered
set_option maxRecDepth 20000 in
theorem ggX5_open_X5_hasOpenSailing : GoodIn wsX5_open wsX5_hasOpenSailing := goodIn_r _ [14, 6, 7, 24, 25, 26, 27, 28, 29, 30, 31, 32, 33, 34, 35, 15, 16, 17, 18, 19, 20, 21, 22, 23] (by decide +kernel) (by decide +kernel)
set_option maxRecDepth 20000 in
theorem gX5_open_X5_hasOpenSailing : GoodIn wsX5_open (wsV RX5 130 RX5 yX5_hasOpenSailing wsX5_hasOpenSailing) := goodIn_app (goodIn_of _ (by decide +kernel)) ggX5_open_X5_hasOpenSailing
theorem dX5_open_0 : decode cX5_open 0 = .ok (.aload_n 0, 1) := by decide +kernel
theorem dX5_open_1 : decode cX5_open 1 = .ok (.iload_n 1, 1) := by decide +kernel
theorem dX5_open_2 : decode cX5_open 2 = .ok (.invokevirtual 92, 3) := by decide +kernel
theorem dX5_open_5 : decode cX5_open 5 = .ok (.astore_n 2, 1) := by decide +kernel
theorem dX5_open_6 : decode cX5_open 6 = .ok (.aload_n 2, 1) := by decide +kernel
theorem dX5_open_7 : decode cX5_open 7 = .ok (.ifnull 21, 3) := by decide +kernel
theorem dX5_open_10 : decode cX5_open 10 = .ok (.aload_n 2, 1) := by decide +kernel
theorem dX5_open_11 : decode cX5_open 11 = .ok (.getfield 80, 3) := by decide +kernel
theorem dX5_open_14 : decode cX5_open 14 = .ok (.ifCond .ne 14, 3) := by decide +kernel
theorem dX5_open_17 : decode cX5_open 17 = .ok (.aload_n 0, 1) := by decide +kernel
theorem dX5_open_18 : decode cX5_open 18 = .ok (.aload_n 2, 1) := by decide +kernel
theorem dX5_open_19 : decode cX5_open 19 = .ok (.getfield 76, 3) := by decide +kernel
theorem dX5_open_22 : decode cX5_open 22 = .ok (.invokevirtual 130, 3) := by decide +kernel
theorem dX5_open_25 : decode cX5_open 25 = .ok (.ifCond .eq 5, 3) := by decide +kernel
theorem dX5_open_28 : decode cX5_open 28 = .ok (.iconst 0, 1) := by decide +kernel
theorem dX5_open_29 : decode cX5_open 29 = .ok (.ireturn, 1) := by decide +kernel
theorem dX5_open_30 : decode cX5_open 30 = .ok (.aload_n 2, 1) := by decide +kernel
theorem dX5_open_31 : decode cX5_open 31 = .ok (.iconst 1, 1) := by decide +kernel
theorem dX5_open_32 : decode cX5_open 32 = .ok (.putfield 80, 3) := by decide +kernel
theorem dX5_open_35 : decode cX5_open 35 = .ok (.iconst 1, 1) := by decide +kernel
theorem dX5_open_36 : decode cX5_open 36 = .ok (.ireturn, 1) := by decide +kernel
theorem dX5_hasOpenSailing_0 : decode cX5_hasOpenSailing 0 = .ok (.iconst 0, 1) := by decide +kernel
theorem dX5_hasOpenSailing_1 : decode cX5_hasOpenSailing 1 = .ok (.istore_n 2, 1) := by decide +kernel
theorem dX5_hasOpenSailing_2 : decode cX5_hasOpenSailing 2 = .ok (.iload_n 2, 1) := by decide +kernel
theorem dX5_hasOpenSailing_3 : decode cX5_hasOpenSailing 3 = .ok (.aload_n 0, 1) := by decide +kernel
theorem dX5_hasOpenSailing_4 : decode cX5_hasOpenSailing 4 = .ok (.getfield 65, 3) := by decide +kernel
theorem dX5_hasOpenSailing_7 : decode cX5_hasOpenSailing 7 = .ok (.if_icmp .ge 37, 3) := by decide +kernel
theorem dX5_hasOpenSailing_10 : decode cX5_hasOpenSailing 10 = .ok (.aload_n 0, 1) := by decide +kernel
theorem dX5_hasOpenSailing_11 : decode cX5_hasOpenSailing 11 = .ok (.getfield 23, 3) := by decide +kernel
theorem dX5_hasOpenSailing_14 : decode cX5_hasOpenSailing 14 = .ok (.iload_n 2, 1) := by decide +kernel
theorem dX5_hasOpenSailing_15 : decode cX5_hasOpenSailing 15 = .ok (.aaload, 1) := by decide +kernel
theorem dX5_hasOpenSailing_16 : decode cX5_hasOpenSailing 16 = .ok (.getfield 76, 3) := by decide +kernel
theorem dX5_hasOpenSailing_19 : decode cX5_hasOpenSailing 19 = .ok (.aload_n 1, 1) := by decide +kernel
theorem dX5_hasOpenSailing_20 : decode cX5_hasOpenSailing 20 = .ok (.if_acmp .ne 18, 3) := by decide +kernel
theorem dX5_hasOpenSailing_23 : decode cX5_hasOpenSailing 23 = .ok (.aload_n 0, 1) := by decide +kernel
theorem dX5_hasOpenSailing_24 : decode cX5_hasOpenSailing 24 = .ok (.getfield 23, 3) := by decide +kernel
theorem dX5_hasOpenSailing_27 : decode cX5_hasOpenSailing 27 = .ok (.iload_n 2, 1) := by decide +kernel
theorem dX5_hasOpenSailing_28 : decode cX5_hasOpenSailing 28 = .ok (.aaload, 1) := by decide +kernel
theorem dX5_hasOpenSailing_29 : decode cX5_hasOpenSailing 29 = .ok (.getfield 80, 3) := by decide +kernel
theorem dX5_hasOpenSailing_32 : decode cX5_hasOpenSailing 32 = .ok (.iconst 1, 1) := by decide +kernel
theorem dX5_hasOpenSailing_33 : decode cX5_hasOpenSailing 33 = .ok (.if_icmp .ne 5, 3) := by decide +kernel
theorem dX5_hasOpenSailing_36 : decode cX5_hasOpenSailing 36 = .ok (.iconst 1, 1) := by decide +kernel
theorem dX5_hasOpenSailing_37 : decode cX5_hasOpenSailing 37 = .ok (.ireturn, 1) := by decide +kernel
theorem dX5_hasOpenSailing_38 : decode cX5_hasOpenSailing 38 = .ok (.iinc 2 1, 3) := by decide +kernel
theorem dX5_hasOpenSailing_41 : decode cX5_hasOpenSailing 41 = .ok (.goto (-39), 3) := by decide +kernel
theorem dX5_hasOpenSailing_44 : decode cX5_hasOpenSailing 44 = .ok (.iconst 0, 1) := by decide +kernel
theorem dX5_hasOpenSailing_45 : decode cX5_hasOpenSailing 45 = .ok (.ireturn, 1) := by decide +kernel
set_option maxRecDepth 20000 in
theorem ggX5_settle_X5_within : GoodIn wsX5_settle wsX5_within := goodIn_r _ [4] (by decide +kernel) (by decide +kernel)
set_option maxRecDepth 20000 in
theorem gX5_settle_X5_within : GoodIn wsX5_settle (va_wsS RX5 47 yX5_within wsX5_within) := goodIn_app (goodIn_of _ (by decide +kernel)) ggX5_settle_X5_within
set_option maxRecDepth 20000 in
theorem ggX5_settle_X5_firstWithTurn : GoodIn wsX5_settle wsX5_firstWithTurn := goodIn_r _ [8, 9, 10, 11, 12, 13, 3, 14, 15, 16, 163, 164, 165, 166, 167, 168, 169, 170, 171, 172, 173, 174, 154, 155, 156, 157, 158, 159, 160, 161, 162, 175, 176, 177, 178, 179, 180, 181, 182, 183, 184, 185, 186, 187, 188, 189, 190] (by decide +kernel) (by decide +kernel)
set_option maxRecDepth 20000 in
theorem gX5_settle_X5_firstWithTurn : GoodIn wsX5_settle (wsV RX5 134 RX5 yX5_firstWithTurn wsX5_firstWithTurn) := goodIn_app (goodIn_of _ (by decide +kernel)) ggX5_settle_X5_firstWithTurn
set_option maxRecDepth 20000 in
theorem ggX5_settle_X5_doRecallTurn : GoodIn wsX5_settle wsX5_doRecallTurn := goodIn_r _ [20, 21, 22, 23, 3, 24, 15, 16, 25, 26, 27, 28, 29, 30, 31, 32, 33, 34, 35, 36, 37, 38, 39, 40, 41, 42, 43, 44, 45, 46, 47, 48, 49, 50, 51, 52, 53, 54, 55, 56, 57, 58, 1, 2, 4, 59, 60, 61, 62, 63, 64, 65, 66, 67, 68, 69, 70, 71, 72, 73, 74, 9, 10, 75, 76, 77, 78, 79, 80, 81, 82, 83, 84, 175, 176, 177, 178, 179, 180, 181, 182, 183, 184, 185, 186, 187, 188, 189, 190, 163, 164, 165, 166, 167, 168, 169, 170, 171, 172, 173, 174, 154, 155, 156, 157, 158, 159, 160, 161, 162, 191, 192, 193, 194, 195, 196, 197, 198, 199, 200, 201] (by decide +kernel) (by decide +kernel)
set_option maxRecDepth 20000 in
theorem gX5_settle_X5_doRecallTurn : GoodIn wsX5_settle (wsV RX5 141 RX5 yX5_doRecallTurn wsX5_doRecallTurn) := goodIn_app (goodIn_of _ (by decide +kernel)) ggX5_settle_X5_doRecallTurn
set_option maxRecDepth 20000 in
theorem ggX5_settle_X5_doBoardingTurn : GoodIn wsX5_settle wsX5_doBoardingTurn := goodIn_r _ [88, 89, 90, 91, 3, 92, 15, 16, 59, 60, 61, 62, 63, 64, 65, 66, 93, 94, 95, 96, 97, 98, 99, 100, 57, 58, 101, 102, 103, 104, 105, 106, 107, 108, 109, 110, 111, 112, 113, 114, 115, 116, 117, 118, 119, 120, 121, 30, 122, 123, 48, 43, 124, 125, 126, 127, 128, 38, 39, 40, 41, 42, 44, 45, 46, 47, 129, 130, 131, 132, 133, 134, 135, 136, 137, 138, 139, 140, 141, 142, 143, 144, 145, 146, 147, 148, 149, 33, 34, 35, 36, 37, 49, 50, 51, 52, 175, 176, 177, 178, 179, 180, 181, 182, 183, 184, 185, 186, 187, 188, 189, 190, 154, 155, 156, 157, 158, 159, 160, 161, 162, 163, 164, 165, 166, 167, 168, 169, 170, 171, 172, 173, 174, 199, 200, 201, 191, 192, 193, 194, 195, 196, 197, 198] (by decide +kernel) (by decide +kernel)
set_option maxRecDepth 20000 in
theorem gX5_settle_X5_doBoardingTurn : GoodIn wsX5_settle (wsV RX5 145 RX5 yX5_doBoardingTurn wsX5_doBoardingTurn) := goodIn_app (goodIn_of _ (by decide +kernel)) ggX5_settle_X5_doBoardingTurn
set_option maxRecDepth 20000 in
theorem ggX5_settle_X5_bringRecallOn : GoodIn wsX5_settle wsX5_bringRecallOn := goodIn_r _ [153, 11, 12, 13, 3, 14, 15, 16, 21, 22, 23, 24, 67, 68, 69, 70, 154, 155, 156, 157, 158, 159, 160, 161, 162, 163, 164, 165, 166, 167, 168, 169, 170, 171, 172, 173, 174, 175, 176, 177, 178, 179, 180, 181, 182, 183, 184, 185, 186, 187, 188, 189, 190] (by decide +kernel) (by decide +kernel)
set_option maxRecDepth 20000 in
theorem gX5_settle_X5_bringRecallOn : GoodIn wsX5_settle (wsV RX5 148 RX5 yX5_bringRecallOn wsX5_bringRecallOn) := goodIn_app (goodIn_of _ (by decide +kernel)) ggX5_settle_X5_bringRecallOn
theorem dX5_settle_0 : decode cX5_settle 0 = .ok (.iload_n 1, 1) := by decide +kernel
theorem dX5_settle_1 : decode cX5_settle 1 = .ok (.iconst 0, 1) := by decide +kernel
theorem dX5_settle_2 : decode cX5_settle 2 = .ok (.sipush 500, 3) := by decide +kernel
theorem dX5_settle_5 : decode cX5_settle 5 = .ok (.invokestatic 47, 3) := by decide +kernel
theorem dX5_settle_8 : decode cX5_settle 8 = .ok (.ifCond .ne 5, 3) := by decide +kernel
theorem dX5_settle_11 : decode cX5_settle 11 = .ok (.iconst (-1), 1) := by decide +kernel
theorem dX5_settle_12 : decode cX5_settle 12 = .ok (.ireturn, 1) := by decide +kernel
theorem dX5_settle_13 : decode cX5_settle 13 = .ok (.iconst 0, 1) := by decide +kernel
theorem dX5_settle_14 : decode cX5_settle 14 = .ok (.istore_n 2, 1) := by decide +kernel
theorem dX5_settle_15 : decode cX5_settle 15 = .ok (.iload_n 2, 1) := by decide +kernel
theorem dX5_settle_16 : decode cX5_settle 16 = .ok (.iload_n 1, 1) := by decide +kernel
theorem dX5_settle_17 : decode cX5_settle 17 = .ok (.if_icmp .ge 66, 3) := by decide +kernel
theorem dX5_settle_20 : decode cX5_settle 20 = .ok (.aload_n 0, 1) := by decide +kernel
theorem dX5_settle_21 : decode cX5_settle 21 = .ok (.invokevirtual 134, 3) := by decide +kernel
theorem dX5_settle_24 : decode cX5_settle 24 = .ok (.astore_n 3, 1) := by decide +kernel
theorem dX5_settle_25 : decode cX5_settle 25 = .ok (.aload_n 3, 1) := by decide +kernel
theorem dX5_settle_26 : decode cX5_settle 26 = .ok (.ifnonnull 5, 3) := by decide +kernel
theorem dX5_settle_29 : decode cX5_settle 29 = .ok (.iload_n 2, 1) := by decide +kernel
theorem dX5_settle_30 : decode cX5_settle 30 = .ok (.ireturn, 1) := by decide +kernel
theorem dX5_settle_31 : decode cX5_settle 31 = .ok (.aload_n 3, 1) := by decide +kernel
theorem dX5_settle_32 : decode cX5_settle 32 = .ok (.getfield 138, 3) := by decide +kernel
theorem dX5_settle_35 : decode cX5_settle 35 = .ok (.ifCond .ne 11, 3) := by decide +kernel
theorem dX5_settle_38 : decode cX5_settle 38 = .ok (.aload_n 0, 1) := by decide +kernel
theorem dX5_settle_39 : decode cX5_settle 39 = .ok (.aload_n 3, 1) := by decide +kernel
theorem dX5_settle_40 : decode cX5_settle 40 = .ok (.invokevirtual 141, 3) := by decide +kernel
theorem dX5_settle_43 : decode cX5_settle 43 = .ok (.goto 29, 3) := by decide +kernel
theorem dX5_settle_46 : decode cX5_settle 46 = .ok (.aload_n 0, 1) := by decide +kernel
theorem dX5_settle_47 : decode cX5_settle 47 = .ok (.aload_n 3, 1) := by decide +kernel
theorem dX5_settle_48 : decode cX5_settle 48 = .ok (.invokevirtual 145, 3) := by decide +kernel
theorem dX5_settle_51 : decode cX5_settle 51 = .ok (.aload_n 3, 1) := by decide +kernel
theorem dX5_settle_52 : decode cX5_settle 52 = .ok (.dup, 1) := by decide +kernel
theorem dX5_settle_53 : decode cX5_settle 53 = .ok (.getfield 138, 3) := by decide +kernel
theorem dX5_settle_56 : decode cX5_settle 56 = .ok (.aload_n 3, 1) := by decide +kernel
theorem dX5_settle_57 : decode cX5_settle 57 = .ok (.getfield 138, 3) := by decide +kernel
theorem dX5_settle_60 : decode cX5_settle 60 = .ok (.ifCond .le 7, 3) := by decide +kernel
theorem dX5_settle_63 : decode cX5_settle 63 = .ok (.iconst 1, 1) := by decide +kernel
theorem dX5_settle_64 : decode cX5_settle 64 = .ok (.goto 4, 3) := by decide +kernel
theorem dX5_settle_67 : decode cX5_settle 67 = .ok (.iconst 0, 1) := by decide +kernel
theorem dX5_settle_68 : decode cX5_settle 68 = .ok (.isub, 1) := by decide +kernel
theorem dX5_settle_69 : decode cX5_settle 69 = .ok (.putfield 138, 3) := by decide +kernel
theorem dX5_settle_72 : decode cX5_settle 72 = .ok (.aload_n 0, 1) := by decide +kernel
theorem dX5_settle_73 : decode cX5_settle 73 = .ok (.aload_n 3, 1) := by decide +kernel
theorem dX5_settle_74 : decode cX5_settle 74 = .ok (.invokevirtual 148, 3) := by decide +kernel
theorem dX5_settle_77 : decode cX5_settle 77 = .ok (.iinc 2 1, 3) := by decide +kernel
theorem dX5_settle_80 : decode cX5_settle 80 = .ok (.goto (-65), 3) := by decide +kernel
theorem dX5_settle_83 : decode cX5_settle 83 = .ok (.iload_n 1, 1) := by decide +kernel
theorem dX5_settle_84 : decode cX5_settle 84 = .ok (.ireturn, 1) := by decide +kernel
set_option maxRecDepth 20000 in
theorem ggX5_firstWithTurn_X5_hasBoardingTurn : GoodIn wsX5_firstWithTurn wsX5_hasBoardingTurn := goodIn_r _ [7, 8, 9, 22, 23, 24, 25, 26, 27, 28, 29, 30, 10, 11, 12, 13, 14, 15, 16, 17, 18, 19, 20, 21, 31, 32, 33, 34, 35, 36, 37, 38, 39, 40, 41, 42, 43, 44, 45, 46] (by decide +kernel) (by decide +kernel)
set_option maxRecDepth 20000 in
theorem gX5_firstWithTurn_X5_hasBoardingTurn : GoodIn wsX5_firstWithTurn (wsV RX5 151 RX5 yX5_hasBoardingTurn wsX5_hasBoardingTurn) := goodIn_app (goodIn_of _ (by decide +kernel)) ggX5_firstWithTurn_X5_hasBoardingTurn
theorem dX5_firstWithTurn_0 : decode cX5_firstWithTurn 0 = .ok (.iconst 0, 1) := by decide +kernel
theorem dX5_firstWithTurn_1 : decode cX5_firstWithTurn 1 = .ok (.istore_n 1, 1) := by decide +kernel
theorem dX5_firstWithTurn_2 : decode cX5_firstWithTurn 2 = .ok (.iload_n 1, 1) := by decide +kernel
theorem dX5_firstWithTurn_3 : decode cX5_firstWithTurn 3 = .ok (.aload_n 0, 1) := by decide +kernel
theorem dX5_firstWithTurn_4 : decode cX5_firstWithTurn 4 = .ok (.getfield 65, 3) := by decide +kernel
theorem dX5_firstWithTurn_7 : decode cX5_firstWithTurn 7 = .ok (.if_icmp .ge 41, 3) := by decide +kernel
theorem dX5_firstWithTurn_10 : decode cX5_firstWithTurn 10 = .ok (.aload_n 0, 1) := by decide +kernel
theorem dX5_firstWithTurn_11 : decode cX5_firstWithTurn 11 = .ok (.getfield 23, 3) := by decide +kernel
theorem dX5_firstWithTurn_14 : decode cX5_firstWithTurn 14 = .ok (.iload_n 1, 1) := by decide +kernel
theorem dX5_firstWithTurn_15 : decode cX5_firstWithTurn 15 = .ok (.aaload, 1) := by decide +kernel
theorem dX5_firstWithTurn_16 : decode cX5_firstWithTurn 16 = .ok (.astore_n 2, 1) := by decide +kernel
theorem dX5_firstWithTurn_17 : decode cX5_firstWithTurn 17 = .ok (.aload_n 2, 1) := by decide +kernel
theorem dX5_firstWithTurn_18 : decode cX5_firstWithTurn 18 = .ok (.getfield 80, 3) := by decide +kernel
theorem dX5_firstWithTurn_21 : decode cX5_firstWithTurn 21 = .ok (.iconst 1, 1) := by decide +kernel
theorem dX5_firstWithTurn_22 : decode cX5_firstWithTurn 22 = .ok (.if_icmp .ne 20, 3) := by decide +kernel
theorem dX5_firstWithTurn_25 : decode cX5_firstWithTurn 25 = .ok (.aload_n 2, 1) := by decide +kernel
theorem dX5_firstWithTurn_26 : decode cX5_firstWithTurn 26 = .ok (.getfield 138, 3) := by decide +kernel
theorem dX5_firstWithTurn_29 : decode cX5_firstWithTurn 29 = .ok (.ifCond .eq 11, 3) := by decide +kernel
theorem dX5_firstWithTurn_32 : decode cX5_firstWithTurn 32 = .ok (.aload_n 0, 1) := by decide +kernel
theorem dX5_firstWithTurn_33 : decode cX5_firstWithTurn 33 = .ok (.aload_n 2, 1) := by decide +kernel
theorem dX5_firstWithTurn_34 : decode cX5_firstWithTurn 34 = .ok (.invokevirtual 151, 3) := by decide +kernel
theorem dX5_firstWithTurn_37 : decode cX5_firstWithTurn 37 = .ok (.ifCond .eq 5, 3) := by decide +kernel
theorem dX5_firstWithTurn_40 : decode cX5_firstWithTurn 40 = .ok (.aload_n 2, 1) := by decide +kernel
theorem dX5_firstWithTurn_41 : decode cX5_firstWithTurn 41 = .ok (.areturn, 1) := by decide +kernel
theorem dX5_firstWithTurn_42 : decode cX5_firstWithTurn 42 = .ok (.iinc 1 1, 3) := by decide +kernel
theorem dX5_firstWithTurn_45 : decode cX5_firstWithTurn 45 = .ok (.goto (-43), 3) := by decide +kernel
theorem dX5_firstWithTurn_48 : decode cX5_firstWithTurn 48 = .ok (.aconst_null, 1) := by decide +kernel
theorem dX5_firstWithTurn_49 : decode cX5_firstWithTurn 49 = .ok (.areturn, 1) := by decide +kernel
theorem dX5_hasBoardingTurn_0 : decode cX5_hasBoardingTurn 0 = .ok (.aload_n 1, 1) := by decide +kernel
theorem dX5_hasBoardingTurn_1 : decode cX5_hasBoardingTurn 1 = .ok (.getfield 155, 3) := by decide +kernel
theorem dX5_hasBoardingTurn_4 : decode cX5_hasBoardingTurn 4 = .ok (.ifnull 5, 3) := by decide +kernel
theorem dX5_hasBoardingTurn_7 : decode cX5_hasBoardingTurn 7 = .ok (.iconst 1, 1) := by decide +kernel
theorem dX5_hasBoardingTurn_8 : decode cX5_hasBoardingTurn 8 = .ok (.ireturn, 1) := by decide +kernel
theorem dX5_hasBoardingTurn_9 : decode cX5_hasBoardingTurn 9 = .ok (.iconst 0, 1) := by decide +kernel
theorem dX5_hasBoardingTurn_10 : decode cX5_hasBoardingTurn 10 = .ok (.istore_n 2, 1) := by decide +kernel
theorem dX5_hasBoardingTurn_11 : decode cX5_hasBoardingTurn 11 = .ok (.iload_n 2, 1) := by decide +kernel
theorem dX5_hasBoardingTurn_12 : decode cX5_hasBoardingTurn 12 = .ok (.aload_n 0, 1) := by decide +kernel
theorem dX5_hasBoardingTurn_13 : decode cX5_hasBoardingTurn 13 = .ok (.getfield 100, 3) := by decide +kernel
theorem dX5_hasBoardingTurn_16 : decode cX5_hasBoardingTurn 16 = .ok (.if_icmp .ge 42, 3) := by decide +kernel
theorem dX5_hasBoardingTurn_19 : decode cX5_hasBoardingTurn 19 = .ok (.aload_n 0, 1) := by decide +kernel
theorem dX5_hasBoardingTurn_20 : decode cX5_hasBoardingTurn 20 = .ok (.getfield 29, 3) := by decide +kernel
theorem dX5_hasBoardingTurn_23 : decode cX5_hasBoardingTurn 23 = .ok (.iload_n 2, 1) := by decide +kernel
theorem dX5_hasBoardingTurn_24 : decode cX5_hasBoardingTurn 24 = .ok (.aaload, 1) := by decide +kernel
theorem dX5_hasBoardingTurn_25 : decode cX5_hasBoardingTurn 25 = .ok (.astore_n 3, 1) := by decide +kernel
theorem dX5_hasBoardingTurn_26 : decode cX5_hasBoardingTurn 26 = .ok (.aload_n 3, 1) := by decide +kernel
theorem dX5_hasBoardingTurn_27 : decode cX5_hasBoardingTurn 27 = .ok (.getfield 122, 3) := by decide +kernel
theorem dX5_hasBoardingTurn_30 : decode cX5_hasBoardingTurn 30 = .ok (.aload_n 1, 1) := by decide +kernel
theorem dX5_hasBoardingTurn_31 : decode cX5_hasBoardingTurn 31 = .ok (.if_acmp .ne 21, 3) := by decide +kernel
theorem dX5_hasBoardingTurn_34 : decode cX5_hasBoardingTurn 34 = .ok (.aload_n 3, 1) := by decide +kernel
theorem dX5_hasBoardingTurn_35 : decode cX5_hasBoardingTurn 35 = .ok (.getfield 120, 3) := by decide +kernel
theorem dX5_hasBoardingTurn_38 : decode cX5_hasBoardingTurn 38 = .ok (.iconst 1, 1) := by decide +kernel
theorem dX5_hasBoardingTurn_39 : decode cX5_hasBoardingTurn 39 = .ok (.if_icmp .eq 11, 3) := by decide +kernel
theorem dX5_hasBoardingTurn_42 : decode cX5_hasBoardingTurn 42 = .ok (.aload_n 3, 1) := by decide +kernel
theorem dX5_hasBoardingTurn_43 : decode cX5_hasBoardingTurn 43 = .ok (.getfield 120, 3) := by decide +kernel
theorem dX5_hasBoardingTurn_46 : decode cX5_hasBoardingTurn 46 = .ok (.iconst 2, 1) := by decide +kernel
theorem dX5_hasBoardingTurn_47 : decode cX5_hasBoardingTurn 47 = .ok (.if_icmp .ne 5, 3) := by decide +kernel
theorem dX5_hasBoardingTurn_50 : decode cX5_hasBoardingTurn 50 = .ok (.iconst 1, 1) := by decide +kernel
theorem dX5_hasBoardingTurn_51 : decode cX5_hasBoardingTurn 51 = .ok (.ireturn, 1) := by decide +kernel
theorem dX5_hasBoardingTurn_52 : decode cX5_hasBoardingTurn 52 = .ok (.iinc 2 1, 3) := by decide +kernel
theorem dX5_hasBoardingTurn_55 : decode cX5_hasBoardingTurn 55 = .ok (.goto (-44), 3) := by decide +kernel
theorem dX5_hasBoardingTurn_58 : decode cX5_hasBoardingTurn 58 = .ok (.iconst 0, 1) := by decide +kernel
theorem dX5_hasBoardingTurn_59 : decode cX5_hasBoardingTurn 59 = .ok (.ireturn, 1) := by decide +kernel
theorem dX5_writeLog_0 : decode cX5_writeLog 0 = .ok (.aload_n 0, 1) := by decide +kernel
theorem dX5_writeLog_1 : decode cX5_writeLog 1 = .ok (.getfield 159, 3) := by decide +kernel
theorem dX5_writeLog_4 : decode cX5_writeLog 4 = .ok (.sipush 3000, 3) := by decide +kernel
theorem dX5_writeLog_7 : decode cX5_writeLog 7 = .ok (.if_icmp .ge 39, 3) := by decide +kernel
theorem dX5_writeLog_10 : decode cX5_writeLog 10 = .ok (.aload_n 0, 1) := by decide +kernel
theorem dX5_writeLog_11 : decode cX5_writeLog 11 = .ok (.getfield 33, 3) := by decide +kernel
theorem dX5_writeLog_14 : decode cX5_writeLog 14 = .ok (.aload_n 0, 1) := by decide +kernel
theorem dX5_writeLog_15 : decode cX5_writeLog 15 = .ok (.getfield 159, 3) := by decide +kernel
theorem dX5_writeLog_18 : decode cX5_writeLog 18 = .ok (.iload_n 1, 1) := by decide +kernel
theorem dX5_writeLog_19 : decode cX5_writeLog 19 = .ok (.iastore, 1) := by decide +kernel
theorem dX5_writeLog_20 : decode cX5_writeLog 20 = .ok (.aload_n 0, 1) := by decide +kernel
theorem dX5_writeLog_21 : decode cX5_writeLog 21 = .ok (.getfield 37, 3) := by decide +kernel
theorem dX5_writeLog_24 : decode cX5_writeLog 24 = .ok (.aload_n 0, 1) := by decide +kernel
theorem dX5_writeLog_25 : decode cX5_writeLog 25 = .ok (.getfield 159, 3) := by decide +kernel
theorem dX5_writeLog_28 : decode cX5_writeLog 28 = .ok (.aload_n 2, 1) := by decide +kernel
theorem dX5_writeLog_29 : decode cX5_writeLog 29 = .ok (.getfield 162, 3) := by decide +kernel
theorem dX5_writeLog_32 : decode cX5_writeLog 32 = .ok (.iastore, 1) := by decide +kernel
theorem dX5_writeLog_33 : decode cX5_writeLog 33 = .ok (.aload_n 0, 1) := by decide +kernel
theorem dX5_writeLog_34 : decode cX5_writeLog 34 = .ok (.getfield 40, 3) := by decide +kernel
theorem dX5_writeLog_37 : decode cX5_writeLog 37 = .ok (.aload_n 0, 1) := by decide +kernel
theorem dX5_writeLog_38 : decode cX5_writeLog 38 = .ok (.getfield 159, 3) := by decide +kernel
theorem dX5_writeLog_41 : decode cX5_writeLog 41 = .ok (.aload_n 3, 1) := by decide +kernel
theorem dX5_writeLog_42 : decode cX5_writeLog 42 = .ok (.getfield 165, 3) := by decide +kernel
theorem dX5_writeLog_45 : decode cX5_writeLog 45 = .ok (.iastore, 1) := by decide +kernel
theorem dX5_writeLog_46 : decode cX5_writeLog 46 = .ok (.aload_n 0, 1) := by decide +kernel
theorem dX5_writeLog_47 : decode cX5_writeLog 47 = .ok (.dup, 1) := by decide +kernel
theorem dX5_writeLog_48 : decode cX5_writeLog 48 = .ok (.getfield 159, 3) := by decide +kernel
theorem dX5_writeLog_51 : decode cX5_writeLog 51 = .ok (.iconst 1, 1) := by decide +kernel
theorem dX5_writeLog_52 : decode cX5_writeLog 52 = .ok (.iadd, 1) := by decide +kernel
theorem dX5_writeLog_53 : decode cX5_writeLog 53 = .ok (.putfield 159, 3) := by decide +kernel
theorem dX5_writeLog_56 : decode cX5_writeLog 56 = .ok (.aload_n 3, 1) := by decide +kernel
theorem dX5_writeLog_57 : decode cX5_writeLog 57 = .ok (.dup, 1) := by decide +kernel
theorem dX5_writeLog_58 : decode cX5_writeLog 58 = .ok (.getfield 166, 3) := by decide +kernel
theorem dX5_writeLog_61 : decode cX5_writeLog 61 = .ok (.iconst 1, 1) := by decide +kernel
theorem dX5_writeLog_62 : decode cX5_writeLog 62 = .ok (.iadd, 1) := by decide +kernel
theorem dX5_writeLog_63 : decode cX5_writeLog 63 = .ok (.putfield 166, 3) := by decide +kernel
theorem dX5_writeLog_66 : decode cX5_writeLog 66 = .ok (.return_, 1) := by decide +kernel
set_option maxRecDepth 20000 in
theorem ggX5_doBoardingTurn_X5_firstHere : GoodIn wsX5_doBoardingTurn wsX5_firstHere := goodIn_r _ [5, 6, 7, 121, 122, 123, 124, 125, 126, 127, 128, 129, 130, 131, 132, 96, 97, 98, 99, 100, 101, 102, 103, 104, 105, 106, 107, 108, 109, 110, 111] (by decide +kernel) (by decide +kernel)
set_option maxRecDepth 20000 in
theorem gX5_doBoardingTurn_X5_firstHere : GoodIn wsX5_doBoardingTurn (wsV RX5 169 RX5 yX5_firstHere wsX5_firstHere) := goodIn_app (goodIn_of _ (by decide +kernel)) ggX5_doBoardingTurn_X5_firstHere
set_option maxRecDepth 20000 in
theorem ggX5_doBoardingTurn_X5_writeLog : GoodIn wsX5_doBoardingTurn wsX5_writeLog := goodIn_r _ [11, 12, 13, 14, 15, 121, 122, 123, 124, 125, 126, 127, 128, 129, 130, 131, 132, 96, 97, 98, 99, 100, 101, 102, 103, 104, 105, 106, 107, 108, 109, 110, 111, 112, 113, 114, 115, 116, 117, 118, 119, 120] (by decide +kernel) (by decide +kernel)
set_option maxRecDepth 20000 in
theorem gX5_doBoardingTurn_X5_writeLog : GoodIn wsX5_doBoardingTurn (wsV RX5 173 RX5 yX5_writeLog wsX5_writeLog) := goodIn_app (goodIn_of _ (by decide +kernel)) ggX5_doBoardingTurn_X5_writeLog
set_option maxRecDepth 20000 in
theorem ggX5_doBoardingTurn_X5_goOnAfterRamp : GoodIn wsX5_doBoardingTurn wsX5_goOnAfterRamp := goodIn_r _ [19, 20, 21, 22, 4, 23, 24, 25, 8, 9, 10, 11, 12, 13, 14, 15, 112, 113, 114, 115, 116, 117, 118, 119, 120, 96, 97, 98, 99, 100, 101, 102, 103, 104, 105, 106, 107, 108, 109, 110, 111, 121, 122, 123, 124, 125, 126, 127, 128, 129, 130, 131, 132, 133, 134, 135] (by decide +kernel) (by decide +kernel)
set_option maxRecDepth 20000 in
theorem gX5_doBoardingTurn_X5_goOnAfterRamp : GoodIn wsX5_doBoardingTurn (wsV RX5 177 RX5 yX5_goOnAfterRamp wsX5_goOnAfterRamp) := goodIn_app (goodIn_of _ (by decide +kernel)) ggX5_doBoardingTurn_X5_goOnAfterRamp
set_option maxRecDepth 20000 in
theorem ggX5_doBoardingTurn_X5_firstOfBoardingList : GoodIn wsX5_doBoardingTurn wsX5_firstOfBoardingList := goodIn_r _ [29, 6, 7, 30, 31, 32, 33, 34, 35, 36, 37, 38, 39, 40, 41, 121, 122, 123, 124, 125, 126, 127, 128, 129, 130, 131, 132, 96, 97, 98, 99, 100, 101, 102, 103, 104, 105, 106, 107, 108, 109, 110, 111, 112, 113, 114, 115, 116, 117, 118, 119, 120] (by decide +kernel) (by decide +kernel)
end
section
set_option maxRecDepth 20000 in
theorem gX5_doBoardingTurn_X5_firstOfBoardingList : GoodIn wsX5_doBoardingTurn (wsV RX5 181 RX5 yX5_firstOfBoardingList wsX5_firstOfBoardingList) := goodIn_app (goodIn_of _ (by decide +kernel)) ggX5_doBoardingTurn_X5_firstOfBoardingList
set_option maxRecDepth 20000 in
theorem ggX5_doBoardingTurn_X5_doRampTurn : GoodIn wsX5_doBoardingTurn wsX5_doRampTurn := goodIn_r _ [45, 12, 46, 47, 48, 49, 50, 51, 52, 53, 54, 55, 56, 57, 58, 59, 60, 61, 62, 63, 64, 65, 66, 67, 68, 69, 70, 71, 72, 73, 74, 75, 76, 77, 78, 79, 80, 81, 82, 83, 84, 85, 86, 87, 88, 89, 90, 91, 92, 93, 94, 95, 8, 9, 10, 4, 11, 13, 14, 15, 112, 113, 114, 115, 116, 117, 118, 119, 120, 96, 97, 98, 99, 100, 101, 102, 103, 104, 105, 106, 107, 108, 109, 110, 111, 121, 122, 123, 124, 125, 126, 127, 128, 129, 130, 131, 132, 136, 137, 138, 139, 140, 141, 142, 143] (by decide +kernel) (by decide +kernel)
set_option maxRecDepth 20000 in
theorem gX5_doBoardingTurn_X5_doRampTurn : GoodIn wsX5_doBoardingTurn (wsV RX5 184 RX5 yX5_doRampTurn wsX5_doRampTurn) := goodIn_app (goodIn_of _ (by decide +kernel)) ggX5_doBoardingTurn_X5_doRampTurn
theorem dX5_doBoardingTurn_0 : decode cX5_doBoardingTurn 0 = .ok (.aload_n 0, 1) := by decide +kernel
theorem dX5_doBoardingTurn_1 : decode cX5_doBoardingTurn 1 = .ok (.aload_n 1, 1) := by decide +kernel
theorem dX5_doBoardingTurn_2 : decode cX5_doBoardingTurn 2 = .ok (.invokevirtual 169, 3) := by decide +kernel
theorem dX5_doBoardingTurn_5 : decode cX5_doBoardingTurn 5 = .ok (.astore_n 2, 1) := by decide +kernel
theorem dX5_doBoardingTurn_6 : decode cX5_doBoardingTurn 6 = .ok (.aload_n 2, 1) := by decide +kernel
theorem dX5_doBoardingTurn_7 : decode cX5_doBoardingTurn 7 = .ok (.ifnull 18, 3) := by decide +kernel
theorem dX5_doBoardingTurn_10 : decode cX5_doBoardingTurn 10 = .ok (.aload_n 2, 1) := by decide +kernel
theorem dX5_doBoardingTurn_11 : decode cX5_doBoardingTurn 11 = .ok (.iconst 2, 1) := by decide +kernel
theorem dX5_doBoardingTurn_12 : decode cX5_doBoardingTurn 12 = .ok (.putfield 120, 3) := by decide +kernel
theorem dX5_doBoardingTurn_15 : decode cX5_doBoardingTurn 15 = .ok (.aload_n 0, 1) := by decide +kernel
theorem dX5_doBoardingTurn_16 : decode cX5_doBoardingTurn 16 = .ok (.iconst 0, 1) := by decide +kernel
theorem dX5_doBoardingTurn_17 : decode cX5_doBoardingTurn 17 = .ok (.aload_n 2, 1) := by decide +kernel
theorem dX5_doBoardingTurn_18 : decode cX5_doBoardingTurn 18 = .ok (.aload_n 1, 1) := by decide +kernel
theorem dX5_doBoardingTurn_19 : decode cX5_doBoardingTurn 19 = .ok (.invokevirtual 173, 3) := by decide +kernel
theorem dX5_doBoardingTurn_22 : decode cX5_doBoardingTurn 22 = .ok (.goto 38, 3) := by decide +kernel
theorem dX5_doBoardingTurn_25 : decode cX5_doBoardingTurn 25 = .ok (.aload_n 1, 1) := by decide +kernel
theorem dX5_doBoardingTurn_26 : decode cX5_doBoardingTurn 26 = .ok (.getfield 155, 3) := by decide +kernel
theorem dX5_doBoardingTurn_29 : decode cX5_doBoardingTurn 29 = .ok (.ifnull 15, 3) := by decide +kernel
theorem dX5_doBoardingTurn_32 : decode cX5_doBoardingTurn 32 = .ok (.aload_n 0, 1) := by decide +kernel
theorem dX5_doBoardingTurn_33 : decode cX5_doBoardingTurn 33 = .ok (.aload_n 1, 1) := by decide +kernel
theorem dX5_doBoardingTurn_34 : decode cX5_doBoardingTurn 34 = .ok (.aload_n 1, 1) := by decide +kernel
theorem dX5_doBoardingTurn_35 : decode cX5_doBoardingTurn 35 = .ok (.getfield 155, 3) := by decide +kernel
theorem dX5_doBoardingTurn_38 : decode cX5_doBoardingTurn 38 = .ok (.invokevirtual 177, 3) := by decide +kernel
theorem dX5_doBoardingTurn_41 : decode cX5_doBoardingTurn 41 = .ok (.goto 19, 3) := by decide +kernel
theorem dX5_doBoardingTurn_44 : decode cX5_doBoardingTurn 44 = .ok (.aload_n 0, 1) := by decide +kernel
theorem dX5_doBoardingTurn_45 : decode cX5_doBoardingTurn 45 = .ok (.aload_n 1, 1) := by decide +kernel
theorem dX5_doBoardingTurn_46 : decode cX5_doBoardingTurn 46 = .ok (.invokevirtual 181, 3) := by decide +kernel
theorem dX5_doBoardingTurn_49 : decode cX5_doBoardingTurn 49 = .ok (.astore_n 3, 1) := by decide +kernel
theorem dX5_doBoardingTurn_50 : decode cX5_doBoardingTurn 50 = .ok (.aload_n 3, 1) := by decide +kernel
theorem dX5_doBoardingTurn_51 : decode cX5_doBoardingTurn 51 = .ok (.ifnull 9, 3) := by decide +kernel
theorem dX5_doBoardingTurn_54 : decode cX5_doBoardingTurn 54 = .ok (.aload_n 0, 1) := by decide +kernel
theorem dX5_doBoardingTurn_55 : decode cX5_doBoardingTurn 55 = .ok (.aload_n 1, 1) := by decide +kernel
theorem dX5_doBoardingTurn_56 : decode cX5_doBoardingTurn 56 = .ok (.aload_n 3, 1) := by decide +kernel
theorem dX5_doBoardingTurn_57 : decode cX5_doBoardingTurn 57 = .ok (.invokevirtual 184, 3) := by decide +kernel
theorem dX5_doBoardingTurn_60 : decode cX5_doBoardingTurn 60 = .ok (.return_, 1) := by decide +kernel
theorem dX5_firstHere_0 : decode cX5_firstHere 0 = .ok (.aconst_null, 1) := by decide +kernel
theorem dX5_firstHere_1 : decode cX5_firstHere 1 = .ok (.astore_n 2, 1) := by decide +kernel
theorem dX5_firstHere_2 : decode cX5_firstHere 2 = .ok (.iconst 0, 1) := by decide +kernel
theorem dX5_firstHere_3 : decode cX5_firstHere 3 = .ok (.istore_n 3, 1) := by decide +kernel
theorem dX5_firstHere_4 : decode cX5_firstHere 4 = .ok (.iload_n 3, 1) := by decide +kernel
theorem dX5_firstHere_5 : decode cX5_firstHere 5 = .ok (.aload_n 0, 1) := by decide +kernel
theorem dX5_firstHere_6 : decode cX5_firstHere 6 = .ok (.getfield 100, 3) := by decide +kernel
theorem dX5_firstHere_9 : decode cX5_firstHere 9 = .ok (.if_icmp .ge 54, 3) := by decide +kernel
theorem dX5_firstHere_12 : decode cX5_firstHere 12 = .ok (.aload_n 0, 1) := by decide +kernel
theorem dX5_firstHere_13 : decode cX5_firstHere 13 = .ok (.getfield 29, 3) := by decide +kernel
theorem dX5_firstHere_16 : decode cX5_firstHere 16 = .ok (.iload_n 3, 1) := by decide +kernel
theorem dX5_firstHere_17 : decode cX5_firstHere 17 = .ok (.aaload, 1) := by decide +kernel
theorem dX5_firstHere_18 : decode cX5_firstHere 18 = .ok (.astore 4, 2) := by decide +kernel
theorem dX5_firstHere_20 : decode cX5_firstHere 20 = .ok (.aload 4, 2) := by decide +kernel
theorem dX5_firstHere_22 : decode cX5_firstHere 22 = .ok (.getfield 122, 3) := by decide +kernel
theorem dX5_firstHere_25 : decode cX5_firstHere 25 = .ok (.aload_n 1, 1) := by decide +kernel
theorem dX5_firstHere_26 : decode cX5_firstHere 26 = .ok (.if_acmp .ne 31, 3) := by decide +kernel
theorem dX5_firstHere_29 : decode cX5_firstHere 29 = .ok (.aload 4, 2) := by decide +kernel
theorem dX5_firstHere_31 : decode cX5_firstHere 31 = .ok (.getfield 120, 3) := by decide +kernel
theorem dX5_firstHere_34 : decode cX5_firstHere 34 = .ok (.iconst 1, 1) := by decide +kernel
theorem dX5_firstHere_35 : decode cX5_firstHere 35 = .ok (.if_icmp .ne 22, 3) := by decide +kernel
theorem dX5_firstHere_38 : decode cX5_firstHere 38 = .ok (.aload_n 2, 1) := by decide +kernel
theorem dX5_firstHere_39 : decode cX5_firstHere 39 = .ok (.ifnull 15, 3) := by decide +kernel
theorem dX5_firstHere_42 : decode cX5_firstHere 42 = .ok (.aload 4, 2) := by decide +kernel
theorem dX5_firstHere_44 : decode cX5_firstHere 44 = .ok (.getfield 129, 3) := by decide +kernel
theorem dX5_firstHere_47 : decode cX5_firstHere 47 = .ok (.aload_n 2, 1) := by decide +kernel
theorem dX5_firstHere_48 : decode cX5_firstHere 48 = .ok (.getfield 129, 3) := by decide +kernel
theorem dX5_firstHere_51 : decode cX5_firstHere 51 = .ok (.if_icmp .ge 6, 3) := by decide +kernel
theorem dX5_firstHere_54 : decode cX5_firstHere 54 = .ok (.aload 4, 2) := by decide +kernel
theorem dX5_firstHere_56 : decode cX5_firstHere 56 = .ok (.astore_n 2, 1) := by decide +kernel
theorem dX5_firstHere_57 : decode cX5_firstHere 57 = .ok (.iinc 3 1, 3) := by decide +kernel
theorem dX5_firstHere_60 : decode cX5_firstHere 60 = .ok (.goto (-56), 3) := by decide +kernel
theorem dX5_firstHere_63 : decode cX5_firstHere 63 = .ok (.aload_n 2, 1) := by decide +kernel
theorem dX5_firstHere_64 : decode cX5_firstHere 64 = .ok (.areturn, 1) := by decide +kernel
set_option maxRecDepth 20000 in
theorem ggX5_firstOfBoardingList_X4_boardsAheadOf : GoodIn wsX5_firstOfBoardingList wsX4_boardsAheadOf := goodIn_r _ [6, 7, 8, 9, 10, 11, 4, 12, 13, 14, 27, 28, 29, 30, 31, 32, 33, 34, 35, 36, 37, 38, 39, 40, 41, 42, 43, 44, 45, 46, 47, 48, 49, 50, 51] (by decide +kernel) (by decide +kernel)
set_option maxRecDepth 20000 in
theorem gX5_firstOfBoardingList_X4_boardsAheadOf_n187 : GoodIn wsX5_firstOfBoardingList (wsX4_boardsAheadOf) := ggX5_firstOfBoardingList_X4_boardsAheadOf
theorem dX5_firstOfBoardingList_0 : decode cX5_firstOfBoardingList 0 = .ok (.aconst_null, 1) := by decide +kernel
theorem dX5_firstOfBoardingList_1 : decode cX5_firstOfBoardingList 1 = .ok (.astore_n 2, 1) := by decide +kernel
theorem dX5_firstOfBoardingList_2 : decode cX5_firstOfBoardingList 2 = .ok (.iconst 0, 1) := by decide +kernel
theorem dX5_firstOfBoardingList_3 : decode cX5_firstOfBoardingList 3 = .ok (.istore_n 3, 1) := by decide +kernel
theorem dX5_firstOfBoardingList_4 : decode cX5_firstOfBoardingList 4 = .ok (.iload_n 3, 1) := by decide +kernel
theorem dX5_firstOfBoardingList_5 : decode cX5_firstOfBoardingList 5 = .ok (.aload_n 0, 1) := by decide +kernel
theorem dX5_firstOfBoardingList_6 : decode cX5_firstOfBoardingList 6 = .ok (.getfield 100, 3) := by decide +kernel
theorem dX5_firstOfBoardingList_9 : decode cX5_firstOfBoardingList 9 = .ok (.if_icmp .ge 51, 3) := by decide +kernel
theorem dX5_firstOfBoardingList_12 : decode cX5_firstOfBoardingList 12 = .ok (.aload_n 0, 1) := by decide +kernel
theorem dX5_firstOfBoardingList_13 : decode cX5_firstOfBoardingList 13 = .ok (.getfield 29, 3) := by decide +kernel
theorem dX5_firstOfBoardingList_16 : decode cX5_firstOfBoardingList 16 = .ok (.iload_n 3, 1) := by decide +kernel
theorem dX5_firstOfBoardingList_17 : decode cX5_firstOfBoardingList 17 = .ok (.aaload, 1) := by decide +kernel
theorem dX5_firstOfBoardingList_18 : decode cX5_firstOfBoardingList 18 = .ok (.astore 4, 2) := by decide +kernel
theorem dX5_firstOfBoardingList_20 : decode cX5_firstOfBoardingList 20 = .ok (.aload 4, 2) := by decide +kernel
theorem dX5_firstOfBoardingList_22 : decode cX5_firstOfBoardingList 22 = .ok (.getfield 122, 3) := by decide +kernel
theorem dX5_firstOfBoardingList_25 : decode cX5_firstOfBoardingList 25 = .ok (.aload_n 1, 1) := by decide +kernel
theorem dX5_firstOfBoardingList_26 : decode cX5_firstOfBoardingList 26 = .ok (.if_acmp .ne 28, 3) := by decide +kernel
theorem dX5_firstOfBoardingList_29 : decode cX5_firstOfBoardingList 29 = .ok (.aload 4, 2) := by decide +kernel
theorem dX5_firstOfBoardingList_31 : decode cX5_firstOfBoardingList 31 = .ok (.getfield 120, 3) := by decide +kernel
theorem dX5_firstOfBoardingList_34 : decode cX5_firstOfBoardingList 34 = .ok (.iconst 2, 1) := by decide +kernel
theorem dX5_firstOfBoardingList_35 : decode cX5_firstOfBoardingList 35 = .ok (.if_icmp .ne 19, 3) := by decide +kernel
theorem dX5_firstOfBoardingList_38 : decode cX5_firstOfBoardingList 38 = .ok (.aload_n 2, 1) := by decide +kernel
theorem dX5_firstOfBoardingList_39 : decode cX5_firstOfBoardingList 39 = .ok (.ifnull 12, 3) := by decide +kernel
theorem dX5_firstOfBoardingList_42 : decode cX5_firstOfBoardingList 42 = .ok (.aload 4, 2) := by decide +kernel
theorem dX5_firstOfBoardingList_44 : decode cX5_firstOfBoardingList 44 = .ok (.aload_n 2, 1) := by decide +kernel
theorem dX5_firstOfBoardingList_45 : decode cX5_firstOfBoardingList 45 = .ok (.invokevirtual 187, 3) := by decide +kernel
theorem dX5_firstOfBoardingList_48 : decode cX5_firstOfBoardingList 48 = .ok (.ifCond .eq 6, 3) := by decide +kernel
theorem dX5_firstOfBoardingList_51 : decode cX5_firstOfBoardingList 51 = .ok (.aload 4, 2) := by decide +kernel
theorem dX5_firstOfBoardingList_53 : decode cX5_firstOfBoardingList 53 = .ok (.astore_n 2, 1) := by decide +kernel
theorem dX5_firstOfBoardingList_54 : decode cX5_firstOfBoardingList 54 = .ok (.iinc 3 1, 3) := by decide +kernel
theorem dX5_firstOfBoardingList_57 : decode cX5_firstOfBoardingList 57 = .ok (.goto (-53), 3) := by decide +kernel
theorem dX5_firstOfBoardingList_60 : decode cX5_firstOfBoardingList 60 = .ok (.aload_n 2, 1) := by decide +kernel
theorem dX5_firstOfBoardingList_61 : decode cX5_firstOfBoardingList 61 = .ok (.areturn, 1) := by decide +kernel
set_option maxRecDepth 20000 in
theorem ggX5_doRampTurn_X3_placeByDeckRule : GoodIn wsX5_doRampTurn wsX3_placeByDeckRule := goodIn_r _ [5, 6, 7, 8, 9, 10, 3, 11, 12, 13, 14, 15, 16, 17, 18, 19, 20, 21, 22, 23, 24, 25, 26, 27, 28, 29, 30, 31, 32, 33, 34, 35, 36, 37, 38, 39, 40, 41, 42, 43, 44, 45, 46, 47, 48, 49, 50, 51, 97, 98, 99, 100, 101, 102, 103, 104, 69, 70, 71, 72, 73, 74, 75, 76, 77, 78, 79, 80, 81, 82, 83, 84] (by decide +kernel) (by decide +kernel)
set_option maxRecDepth 20000 in
theorem gX5_doRampTurn_X3_placeByDeckRule_n191 : GoodIn wsX5_doRampTurn (wsX3_placeByDeckRule) := ggX5_doRampTurn_X3_placeByDeckRule
set_option maxRecDepth 20000 in
theorem ggX5_doRampTurn_X5_writeLog : GoodIn wsX5_doRampTurn wsX5_writeLog := goodIn_r _ [56, 1, 57, 58, 59, 85, 86, 87, 88, 89, 90, 91, 92, 93, 94, 95, 96, 69, 70, 71, 72, 73, 74, 75, 76, 77, 78, 79, 80, 81, 82, 83, 84, 60, 61, 62, 63, 64, 65, 66, 67, 68] (by decide +kernel) (by decide +kernel)
set_option maxRecDepth 20000 in
theorem gX5_doRampTurn_X5_writeLog : GoodIn wsX5_doRampTurn (wsV RX5 173 RX5 yX5_writeLog wsX5_writeLog) := goodIn_app (goodIn_of _ (by decide +kernel)) ggX5_doRampTurn_X5_writeLog
theorem dX5_doRampTurn_0 : decode cX5_doRampTurn 0 = .ok (.aload_n 1, 1) := by decide +kernel
theorem dX5_doRampTurn_1 : decode cX5_doRampTurn 1 = .ok (.getfield 76, 3) := by decide +kernel
theorem dX5_doRampTurn_4 : decode cX5_doRampTurn 4 = .ok (.aload_n 2, 1) := by decide +kernel
theorem dX5_doRampTurn_5 : decode cX5_doRampTurn 5 = .ok (.invokevirtual 191, 3) := by decide +kernel
theorem dX5_doRampTurn_8 : decode cX5_doRampTurn 8 = .ok (.ifCond .ne 16, 3) := by decide +kernel
theorem dX5_doRampTurn_11 : decode cX5_doRampTurn 11 = .ok (.aload_n 2, 1) := by decide +kernel
theorem dX5_doRampTurn_12 : decode cX5_doRampTurn 12 = .ok (.iconst 4, 1) := by decide +kernel
theorem dX5_doRampTurn_13 : decode cX5_doRampTurn 13 = .ok (.putfield 120, 3) := by decide +kernel
theorem dX5_doRampTurn_16 : decode cX5_doRampTurn 16 = .ok (.aload_n 0, 1) := by decide +kernel
theorem dX5_doRampTurn_17 : decode cX5_doRampTurn 17 = .ok (.iconst 2, 1) := by decide +kernel
theorem dX5_doRampTurn_18 : decode cX5_doRampTurn 18 = .ok (.aload_n 2, 1) := by decide +kernel
theorem dX5_doRampTurn_19 : decode cX5_doRampTurn 19 = .ok (.aload_n 1, 1) := by decide +kernel
theorem dX5_doRampTurn_20 : decode cX5_doRampTurn 20 = .ok (.invokevirtual 173, 3) := by decide +kernel
theorem dX5_doRampTurn_23 : decode cX5_doRampTurn 23 = .ok (.return_, 1) := by decide +kernel
theorem dX5_doRampTurn_24 : decode cX5_doRampTurn 24 = .ok (.aload_n 2, 1) := by decide +kernel
theorem dX5_doRampTurn_25 : decode cX5_doRampTurn 25 = .ok (.iconst 3, 1) := by decide +kernel
theorem dX5_doRampTurn_26 : decode cX5_doRampTurn 26 = .ok (.putfield 120, 3) := by decide +kernel
theorem dX5_doRampTurn_29 : decode cX5_doRampTurn 29 = .ok (.aload_n 2, 1) := by decide +kernel
theorem dX5_doRampTurn_30 : decode cX5_doRampTurn 30 = .ok (.aload_n 0, 1) := by decide +kernel
theorem dX5_doRampTurn_31 : decode cX5_doRampTurn 31 = .ok (.getfield 159, 3) := by decide +kernel
theorem dX5_doRampTurn_34 : decode cX5_doRampTurn 34 = .ok (.putfield 194, 3) := by decide +kernel
theorem dX5_doRampTurn_37 : decode cX5_doRampTurn 37 = .ok (.aload_n 1, 1) := by decide +kernel
theorem dX5_doRampTurn_38 : decode cX5_doRampTurn 38 = .ok (.aload_n 2, 1) := by decide +kernel
theorem dX5_doRampTurn_39 : decode cX5_doRampTurn 39 = .ok (.putfield 155, 3) := by decide +kernel
theorem dX5_doRampTurn_42 : decode cX5_doRampTurn 42 = .ok (.aload_n 1, 1) := by decide +kernel
theorem dX5_doRampTurn_43 : decode cX5_doRampTurn 43 = .ok (.aload_n 2, 1) := by decide +kernel
theorem dX5_doRampTurn_44 : decode cX5_doRampTurn 44 = .ok (.getfield 197, 3) := by decide +kernel
theorem dX5_doRampTurn_47 : decode cX5_doRampTurn 47 = .ok (.ifCond .le 7, 3) := by decide +kernel
theorem dX5_doRampTurn_50 : decode cX5_doRampTurn 50 = .ok (.iconst 1, 1) := by decide +kernel
theorem dX5_doRampTurn_51 : decode cX5_doRampTurn 51 = .ok (.goto 4, 3) := by decide +kernel
theorem dX5_doRampTurn_54 : decode cX5_doRampTurn 54 = .ok (.iconst 0, 1) := by decide +kernel
theorem dX5_doRampTurn_55 : decode cX5_doRampTurn 55 = .ok (.putfield 200, 3) := by decide +kernel
theorem dX5_doRampTurn_58 : decode cX5_doRampTurn 58 = .ok (.aload_n 0, 1) := by decide +kernel
theorem dX5_doRampTurn_59 : decode cX5_doRampTurn 59 = .ok (.iconst 1, 1) := by decide +kernel
theorem dX5_doRampTurn_60 : decode cX5_doRampTurn 60 = .ok (.aload_n 2, 1) := by decide +kernel
theorem dX5_doRampTurn_61 : decode cX5_doRampTurn 61 = .ok (.aload_n 1, 1) := by decide +kernel
theorem dX5_doRampTurn_62 : decode cX5_doRampTurn 62 = .ok (.invokevirtual 173, 3) := by decide +kernel
theorem dX5_doRampTurn_65 : decode cX5_doRampTurn 65 = .ok (.return_, 1) := by decide +kernel
set_option maxRecDepth 20000 in
theorem ggX5_goOnAfterRamp_X5_takeFreeCabin : GoodIn wsX5_goOnAfterRamp wsX5_takeFreeCabin := goodIn_r _ [5, 6, 7, 41, 42, 43, 44, 45, 46, 47, 48, 49, 50, 51, 52, 53, 54, 55] (by decide +kernel) (by decide +kernel)
set_option maxRecDepth 20000 in
theorem gX5_goOnAfterRamp_X5_takeFreeCabin : GoodIn wsX5_goOnAfterRamp (wsV RX5 204 RX5 yX5_takeFreeCabin wsX5_takeFreeCabin) := goodIn_app (goodIn_of _ (by decide +kernel)) ggX5_goOnAfterRamp_X5_takeFreeCabin
set_option maxRecDepth 20000 in
theorem ggX5_goOnAfterRamp_X5_writeLog : GoodIn wsX5_goOnAfterRamp wsX5_writeLog := goodIn_r _ [11, 12, 13, 14, 15, 41, 42, 43, 44, 45, 46, 47, 48, 49, 50, 51, 52, 25, 26, 27, 28, 29, 30, 31, 32, 33, 34, 35, 36, 37, 38, 39, 40, 16, 17, 18, 19, 20, 21, 22, 23, 24] (by decide +kernel) (by decide +kernel)
set_option maxRecDepth 20000 in
theorem gX5_goOnAfterRamp_X5_writeLog : GoodIn wsX5_goOnAfterRamp (wsV RX5 173 RX5 yX5_writeLog wsX5_writeLog) := goodIn_app (goodIn_of _ (by decide +kernel)) ggX5_goOnAfterRamp_X5_writeLog
theorem dX5_goOnAfterRamp_0 : decode cX5_goOnAfterRamp 0 = .ok (.aload_n 1, 1) := by decide +kernel
theorem dX5_goOnAfterRamp_1 : decode cX5_goOnAfterRamp 1 = .ok (.getfield 200, 3) := by decide +kernel
theorem dX5_goOnAfterRamp_4 : decode cX5_goOnAfterRamp 4 = .ok (.ifCond .eq 46, 3) := by decide +kernel
theorem dX5_goOnAfterRamp_7 : decode cX5_goOnAfterRamp 7 = .ok (.aload_n 1, 1) := by decide +kernel
theorem dX5_goOnAfterRamp_8 : decode cX5_goOnAfterRamp 8 = .ok (.iconst 0, 1) := by decide +kernel
theorem dX5_goOnAfterRamp_9 : decode cX5_goOnAfterRamp 9 = .ok (.putfield 200, 3) := by decide +kernel
theorem dX5_goOnAfterRamp_12 : decode cX5_goOnAfterRamp 12 = .ok (.aload_n 2, 1) := by decide +kernel
theorem dX5_goOnAfterRamp_13 : decode cX5_goOnAfterRamp 13 = .ok (.aload_n 0, 1) := by decide +kernel
theorem dX5_goOnAfterRamp_14 : decode cX5_goOnAfterRamp 14 = .ok (.aload_n 1, 1) := by decide +kernel
theorem dX5_goOnAfterRamp_15 : decode cX5_goOnAfterRamp 15 = .ok (.getfield 76, 3) := by decide +kernel
theorem dX5_goOnAfterRamp_18 : decode cX5_goOnAfterRamp 18 = .ok (.aload_n 2, 1) := by decide +kernel
theorem dX5_goOnAfterRamp_19 : decode cX5_goOnAfterRamp 19 = .ok (.getfield 197, 3) := by decide +kernel
theorem dX5_goOnAfterRamp_22 : decode cX5_goOnAfterRamp 22 = .ok (.invokevirtual 204, 3) := by decide +kernel
theorem dX5_goOnAfterRamp_25 : decode cX5_goOnAfterRamp 25 = .ok (.putfield 208, 3) := by decide +kernel
theorem dX5_goOnAfterRamp_28 : decode cX5_goOnAfterRamp 28 = .ok (.aload_n 0, 1) := by decide +kernel
theorem dX5_goOnAfterRamp_29 : decode cX5_goOnAfterRamp 29 = .ok (.aload_n 2, 1) := by decide +kernel
theorem dX5_goOnAfterRamp_30 : decode cX5_goOnAfterRamp 30 = .ok (.getfield 208, 3) := by decide +kernel
theorem dX5_goOnAfterRamp_33 : decode cX5_goOnAfterRamp 33 = .ok (.iconst (-1), 1) := by decide +kernel
theorem dX5_goOnAfterRamp_34 : decode cX5_goOnAfterRamp 34 = .ok (.if_icmp .ne 7, 3) := by decide +kernel
theorem dX5_goOnAfterRamp_37 : decode cX5_goOnAfterRamp 37 = .ok (.iconst 4, 1) := by decide +kernel
theorem dX5_goOnAfterRamp_38 : decode cX5_goOnAfterRamp 38 = .ok (.goto 4, 3) := by decide +kernel
theorem dX5_goOnAfterRamp_41 : decode cX5_goOnAfterRamp 41 = .ok (.iconst 3, 1) := by decide +kernel
theorem dX5_goOnAfterRamp_42 : decode cX5_goOnAfterRamp 42 = .ok (.aload_n 2, 1) := by decide +kernel
theorem dX5_goOnAfterRamp_43 : decode cX5_goOnAfterRamp 43 = .ok (.aload_n 1, 1) := by decide +kernel
theorem dX5_goOnAfterRamp_44 : decode cX5_goOnAfterRamp 44 = .ok (.invokevirtual 173, 3) := by decide +kernel
theorem dX5_goOnAfterRamp_47 : decode cX5_goOnAfterRamp 47 = .ok (.goto 15, 3) := by decide +kernel
theorem dX5_goOnAfterRamp_50 : decode cX5_goOnAfterRamp 50 = .ok (.aload_n 1, 1) := by decide +kernel
theorem dX5_goOnAfterRamp_51 : decode cX5_goOnAfterRamp 51 = .ok (.aconst_null, 1) := by decide +kernel
theorem dX5_goOnAfterRamp_52 : decode cX5_goOnAfterRamp 52 = .ok (.putfield 155, 3) := by decide +kernel
theorem dX5_goOnAfterRamp_55 : decode cX5_goOnAfterRamp 55 = .ok (.aload_n 0, 1) := by decide +kernel
theorem dX5_goOnAfterRamp_56 : decode cX5_goOnAfterRamp 56 = .ok (.iconst 5, 1) := by decide +kernel
theorem dX5_goOnAfterRamp_57 : decode cX5_goOnAfterRamp 57 = .ok (.aload_n 2, 1) := by decide +kernel
theorem dX5_goOnAfterRamp_58 : decode cX5_goOnAfterRamp 58 = .ok (.aload_n 1, 1) := by decide +kernel
theorem dX5_goOnAfterRamp_59 : decode cX5_goOnAfterRamp 59 = .ok (.invokevirtual 173, 3) := by decide +kernel
theorem dX5_goOnAfterRamp_62 : decode cX5_goOnAfterRamp 62 = .ok (.return_, 1) := by decide +kernel
theorem dX5_takeFreeCabin_0 : decode cX5_takeFreeCabin 0 = .ok (.iconst 0, 1) := by decide +kernel
theorem dX5_takeFreeCabin_1 : decode cX5_takeFreeCabin 1 = .ok (.istore_n 3, 1) := by decide +kernel
theorem dX5_takeFreeCabin_2 : decode cX5_takeFreeCabin 2 = .ok (.iload_n 3, 1) := by decide +kernel
theorem dX5_takeFreeCabin_3 : decode cX5_takeFreeCabin 3 = .ok (.aload_n 0, 1) := by decide +kernel
theorem dX5_takeFreeCabin_4 : decode cX5_takeFreeCabin 4 = .ok (.getfield 58, 3) := by decide +kernel
theorem dX5_takeFreeCabin_7 : decode cX5_takeFreeCabin 7 = .ok (.if_icmp .ge 51, 3) := by decide +kernel
theorem dX5_takeFreeCabin_10 : decode cX5_takeFreeCabin 10 = .ok (.aload_n 0, 1) := by decide +kernel
theorem dX5_takeFreeCabin_11 : decode cX5_takeFreeCabin 11 = .ok (.getfield 17, 3) := by decide +kernel
theorem dX5_takeFreeCabin_14 : decode cX5_takeFreeCabin 14 = .ok (.iload_n 3, 1) := by decide +kernel
theorem dX5_takeFreeCabin_15 : decode cX5_takeFreeCabin 15 = .ok (.aaload, 1) := by decide +kernel
theorem dX5_takeFreeCabin_16 : decode cX5_takeFreeCabin 16 = .ok (.astore 4, 2) := by decide +kernel
theorem dX5_takeFreeCabin_18 : decode cX5_takeFreeCabin 18 = .ok (.aload 4, 2) := by decide +kernel
theorem dX5_takeFreeCabin_20 : decode cX5_takeFreeCabin 20 = .ok (.getfield 211, 3) := by decide +kernel
theorem dX5_takeFreeCabin_23 : decode cX5_takeFreeCabin 23 = .ok (.aload_n 1, 1) := by decide +kernel
theorem dX5_takeFreeCabin_24 : decode cX5_takeFreeCabin 24 = .ok (.if_acmp .ne 28, 3) := by decide +kernel
theorem dX5_takeFreeCabin_27 : decode cX5_takeFreeCabin 27 = .ok (.aload 4, 2) := by decide +kernel
theorem dX5_takeFreeCabin_29 : decode cX5_takeFreeCabin 29 = .ok (.getfield 212, 3) := by decide +kernel
theorem dX5_takeFreeCabin_32 : decode cX5_takeFreeCabin 32 = .ok (.ifCond .ne 20, 3) := by decide +kernel
theorem dX5_takeFreeCabin_35 : decode cX5_takeFreeCabin 35 = .ok (.aload 4, 2) := by decide +kernel
theorem dX5_takeFreeCabin_37 : decode cX5_takeFreeCabin 37 = .ok (.getfield 215, 3) := by decide +kernel
theorem dX5_takeFreeCabin_40 : decode cX5_takeFreeCabin 40 = .ok (.iload_n 2, 1) := by decide +kernel
theorem dX5_takeFreeCabin_41 : decode cX5_takeFreeCabin 41 = .ok (.if_icmp .lt 11, 3) := by decide +kernel
theorem dX5_takeFreeCabin_44 : decode cX5_takeFreeCabin 44 = .ok (.aload 4, 2) := by decide +kernel
theorem dX5_takeFreeCabin_46 : decode cX5_takeFreeCabin 46 = .ok (.iconst 1, 1) := by decide +kernel
theorem dX5_takeFreeCabin_47 : decode cX5_takeFreeCabin 47 = .ok (.putfield 212, 3) := by decide +kernel
theorem dX5_takeFreeCabin_50 : decode cX5_takeFreeCabin 50 = .ok (.iload_n 3, 1) := by decide +kernel
theorem dX5_takeFreeCabin_51 : decode cX5_takeFreeCabin 51 = .ok (.ireturn, 1) := by decide +kernel
theorem dX5_takeFreeCabin_52 : decode cX5_takeFreeCabin 52 = .ok (.iinc 3 1, 3) := by decide +kernel
theorem dX5_takeFreeCabin_55 : decode cX5_takeFreeCabin 55 = .ok (.goto (-53), 3) := by decide +kernel
theorem dX5_takeFreeCabin_58 : decode cX5_takeFreeCabin 58 = .ok (.iconst (-1), 1) := by decide +kernel
theorem dX5_takeFreeCabin_59 : decode cX5_takeFreeCabin 59 = .ok (.ireturn, 1) := by decide +kernel
set_option maxRecDepth 20000 in
theorem ggX5_freeCabin_X5_within : GoodIn wsX5_freeCabin wsX5_within := goodIn_r _ [6] (by decide +kernel) (by decide +kernel)
set_option maxRecDepth 20000 in
theorem gX5_freeCabin_X5_within : GoodIn wsX5_freeCabin (va_wsS RX5 47 yX5_within wsX5_within) := goodIn_app (goodIn_of _ (by decide +kernel)) ggX5_freeCabin_X5_within
theorem dX5_freeCabin_0 : decode cX5_freeCabin 0 = .ok (.aload_n 1, 1) := by decide +kernel
theorem dX5_freeCabin_1 : decode cX5_freeCabin 1 = .ok (.getfield 208, 3) := by decide +kernel
theorem dX5_freeCabin_4 : decode cX5_freeCabin 4 = .ok (.iconst 0, 1) := by decide +kernel
theorem dX5_freeCabin_5 : decode cX5_freeCabin 5 = .ok (.aload_n 0, 1) := by decide +kernel
theorem dX5_freeCabin_6 : decode cX5_freeCabin 6 = .ok (.getfield 58, 3) := by decide +kernel
theorem dX5_freeCabin_9 : decode cX5_freeCabin 9 = .ok (.iconst 1, 1) := by decide +kernel
theorem dX5_freeCabin_10 : decode cX5_freeCabin 10 = .ok (.isub, 1) := by decide +kernel
theorem dX5_freeCabin_11 : decode cX5_freeCabin 11 = .ok (.invokestatic 47, 3) := by decide +kernel
theorem dX5_freeCabin_14 : decode cX5_freeCabin 14 = .ok (.ifCond .eq 16, 3) := by decide +kernel
theorem dX5_freeCabin_17 : decode cX5_freeCabin 17 = .ok (.aload_n 0, 1) := by decide +kernel
theorem dX5_freeCabin_18 : decode cX5_freeCabin 18 = .ok (.getfield 17, 3) := by decide +kernel
theorem dX5_freeCabin_21 : decode cX5_freeCabin 21 = .ok (.aload_n 1, 1) := by decide +kernel
theorem dX5_freeCabin_22 : decode cX5_freeCabin 22 = .ok (.getfield 208, 3) := by decide +kernel
theorem dX5_freeCabin_25 : decode cX5_freeCabin 25 = .ok (.aaload, 1) := by decide +kernel
theorem dX5_freeCabin_26 : decode cX5_freeCabin 26 = .ok (.iconst 0, 1) := by decide +kernel
theorem dX5_freeCabin_27 : decode cX5_freeCabin 27 = .ok (.putfield 212, 3) := by decide +kernel
theorem dX5_freeCabin_30 : decode cX5_freeCabin 30 = .ok (.return_, 1) := by decide +kernel
set_option maxRecDepth 20000 in
theorem ggX5_bringOff_X3_clearPlace : GoodIn wsX5_bringOff wsX3_clearPlace := goodIn_r _ [4, 5, 6, 7, 8, 2, 9, 10, 11, 12, 13, 14, 15, 16, 17, 18, 19, 20, 21, 22, 23, 24, 35, 36, 37, 38, 39, 40, 41, 42, 43, 44, 45, 46, 47, 48, 49, 50, 60, 61, 62, 63, 64, 65, 66, 67] (by decide +kernel) (by decide +kernel)
set_option maxRecDepth 20000 in
theorem gX5_bringOff_X3_clearPlace_n218 : GoodIn wsX5_bringOff (wsX3_clearPlace) := ggX5_bringOff_X3_clearPlace
set_option maxRecDepth 20000 in
theorem ggX5_bringOff_X5_freeCabin : GoodIn wsX5_bringOff wsX5_freeCabin := goodIn_r _ [29, 30, 31, 32, 33, 28, 34, 35, 36, 37, 38, 39, 40, 41, 42, 43, 44, 45, 46, 47, 48, 49, 50, 68, 69, 70, 71, 72, 73, 74, 75, 76, 77, 78, 79, 80, 81, 82] (by decide +kernel) (by decide +kernel)
set_option maxRecDepth 20000 in
theorem gX5_bringOff_X5_freeCabin : GoodIn wsX5_bringOff (wsV RX5 222 RX5 yX5_freeCabin wsX5_freeCabin) := goodIn_app (goodIn_of _ (by decide +kernel)) ggX5_bringOff_X5_freeCabin
theorem dX5_bringOff_0 : decode cX5_bringOff 0 = .ok (.aload_n 1, 1) := by decide +kernel
theorem dX5_bringOff_1 : decode cX5_bringOff 1 = .ok (.getfield 122, 3) := by decide +kernel
theorem dX5_bringOff_4 : decode cX5_bringOff 4 = .ok (.getfield 76, 3) := by decide +kernel
theorem dX5_bringOff_7 : decode cX5_bringOff 7 = .ok (.aload_n 1, 1) := by decide +kernel
theorem dX5_bringOff_8 : decode cX5_bringOff 8 = .ok (.invokevirtual 218, 3) := by decide +kernel
theorem dX5_bringOff_11 : decode cX5_bringOff 11 = .ok (.aload_n 0, 1) := by decide +kernel
theorem dX5_bringOff_12 : decode cX5_bringOff 12 = .ok (.aload_n 1, 1) := by decide +kernel
theorem dX5_bringOff_13 : decode cX5_bringOff 13 = .ok (.invokevirtual 222, 3) := by decide +kernel
theorem dX5_bringOff_16 : decode cX5_bringOff 16 = .ok (.aload_n 1, 1) := by decide +kernel
theorem dX5_bringOff_17 : decode cX5_bringOff 17 = .ok (.iconst (-1), 1) := by decide +kernel
theorem dX5_bringOff_18 : decode cX5_bringOff 18 = .ok (.putfield 208, 3) := by decide +kernel
theorem dX5_bringOff_21 : decode cX5_bringOff 21 = .ok (.aload_n 1, 1) := by decide +kernel
theorem dX5_bringOff_22 : decode cX5_bringOff 22 = .ok (.iconst 2, 1) := by decide +kernel
theorem dX5_bringOff_23 : decode cX5_bringOff 23 = .ok (.putfield 120, 3) := by decide +kernel
theorem dX5_bringOff_26 : decode cX5_bringOff 26 = .ok (.return_, 1) := by decide +kernel
set_option maxRecDepth 20000 in
theorem ggX5_recall_X5_sailingNumbered : GoodIn wsX5_recall wsX5_sailingNumbered := goodIn_r _ [5, 6, 7, 8, 9, 4, 10, 38, 39, 40, 41, 42, 43, 44, 45, 46, 47, 48, 49] (by decide +kernel) (by decide +kernel)
set_option maxRecDepth 20000 in
theorem gX5_recall_X5_sailingNumbered : GoodIn wsX5_recall (wsV RX5 92 RX5 yX5_sailingNumbered wsX5_sailingNumbered) := goodIn_app (goodIn_of _ (by decide +kernel)) ggX5_recall_X5_sailingNumbered
set_option maxRecDepth 20000 in
theorem ggX5_recall_X5_within : GoodIn wsX5_recall wsX5_within := goodIn_r _ [10] (by decide +kernel) (by decide +kernel)
set_option maxRecDepth 20000 in
theorem gX5_recall_X5_within : GoodIn wsX5_recall (va_wsS RX5 47 yX5_within wsX5_within) := goodIn_app (goodIn_of _ (by decide +kernel)) ggX5_recall_X5_within
set_option maxRecDepth 20000 in
theorem ggX5_recall_X5_bringRecallOn : GoodIn wsX5_recall wsX5_bringRecallOn := goodIn_r _ [14, 15, 16, 17, 4, 18, 19, 20, 21, 22, 23, 24, 25, 26, 27, 28, 29, 30, 31, 32, 33, 34, 35, 36, 37, 38, 39, 40, 41, 42, 43, 44, 45, 46, 47, 48, 49, 50, 51, 52, 53, 54, 55, 56, 57, 58, 59, 60, 61, 62, 63, 64, 65] (by decide +kernel) (by decide +kernel)
set_option maxRecDepth 20000 in
theorem gX5_recall_X5_bringRecallOn : GoodIn wsX5_recall (wsV RX5 148 RX5 yX5_bringRecallOn wsX5_bringRecallOn) := goodIn_app (goodIn_of _ (by decide +kernel)) ggX5_recall_X5_bringRecallOn
theorem dX5_recall_0 : decode cX5_recall 0 = .ok (.aload_n 0, 1) := by decide +kernel
theorem dX5_recall_1 : decode cX5_recall 1 = .ok (.iload_n 1, 1) := by decide +kernel
theorem dX5_recall_2 : decode cX5_recall 2 = .ok (.invokevirtual 92, 3) := by decide +kernel
theorem dX5_recall_5 : decode cX5_recall 5 = .ok (.astore_n 3, 1) := by decide +kernel
theorem dX5_recall_6 : decode cX5_recall 6 = .ok (.aload_n 3, 1) := by decide +kernel
theorem dX5_recall_7 : decode cX5_recall 7 = .ok (.ifnull 30, 3) := by decide +kernel
theorem dX5_recall_10 : decode cX5_recall 10 = .ok (.aload_n 3, 1) := by decide +kernel
theorem dX5_recall_11 : decode cX5_recall 11 = .ok (.getfield 80, 3) := by decide +kernel
theorem dX5_recall_14 : decode cX5_recall 14 = .ok (.iconst 1, 1) := by decide +kernel
theorem dX5_recall_15 : decode cX5_recall 15 = .ok (.if_icmp .ne 22, 3) := by decide +kernel
theorem dX5_recall_18 : decode cX5_recall 18 = .ok (.aload_n 3, 1) := by decide +kernel
theorem dX5_recall_19 : decode cX5_recall 19 = .ok (.getfield 138, 3) := by decide +kernel
theorem dX5_recall_22 : decode cX5_recall 22 = .ok (.iconst (-1), 1) := by decide +kernel
theorem dX5_recall_23 : decode cX5_recall 23 = .ok (.if_icmp .ne 14, 3) := by decide +kernel
theorem dX5_recall_26 : decode cX5_recall 26 = .ok (.iload_n 2, 1) := by decide +kernel
theorem dX5_recall_27 : decode cX5_recall 27 = .ok (.iconst 0, 1) := by decide +kernel
theorem dX5_recall_28 : decode cX5_recall 28 = .ok (.sipush 1000, 3) := by decide +kernel
theorem dX5_recall_31 : decode cX5_recall 31 = .ok (.invokestatic 47, 3) := by decide +kernel
theorem dX5_recall_34 : decode cX5_recall 34 = .ok (.ifCond .ne 5, 3) := by decide +kernel
theorem dX5_recall_37 : decode cX5_recall 37 = .ok (.iconst 0, 1) := by decide +kernel
theorem dX5_recall_38 : decode cX5_recall 38 = .ok (.ireturn, 1) := by decide +kernel
theorem dX5_recall_39 : decode cX5_recall 39 = .ok (.aload_n 3, 1) := by decide +kernel
theorem dX5_recall_40 : decode cX5_recall 40 = .ok (.iload_n 2, 1) := by decide +kernel
theorem dX5_recall_41 : decode cX5_recall 41 = .ok (.putfield 138, 3) := by decide +kernel
theorem dX5_recall_44 : decode cX5_recall 44 = .ok (.aload_n 0, 1) := by decide +kernel
theorem dX5_recall_45 : decode cX5_recall 45 = .ok (.aload_n 3, 1) := by decide +kernel
theorem dX5_recall_46 : decode cX5_recall 46 = .ok (.invokevirtual 148, 3) := by decide +kernel
theorem dX5_recall_49 : decode cX5_recall 49 = .ok (.iconst 1, 1) := by decide +kernel
theorem dX5_recall_50 : decode cX5_recall 50 = .ok (.ireturn, 1) := by decide +kernel
set_option maxRecDepth 20000 in
theorem ggX5_bringRecallOn_X5_hasBoardingTurn : GoodIn wsX5_bringRecallOn wsX5_hasBoardingTurn := goodIn_r _ [5, 6, 7, 16, 17, 18, 19, 20, 21, 22, 23, 24, 25, 26, 27, 28, 29, 30, 31, 32, 33, 34, 35, 36, 37, 38, 39, 40, 41, 42, 43, 44, 45, 46, 47, 48, 49, 50, 51, 52] (by decide +kernel) (by decide +kernel)
set_option maxRecDepth 20000 in
theorem gX5_bringRecallOn_X5_hasBoardingTurn : GoodIn wsX5_bringRecallOn (wsV RX5 151 RX5 yX5_hasBoardingTurn wsX5_hasBoardingTurn) := goodIn_app (goodIn_of _ (by decide +kernel)) ggX5_bringRecallOn_X5_hasBoardingTurn
set_option maxRecDepth 20000 in
theorem ggX5_bringRecallOn_X5_latestAboard : GoodIn wsX5_bringRecallOn wsX5_latestAboard := goodIn_r _ [11, 6, 7, 25, 26, 27, 28, 29, 30, 31, 32, 33, 34, 35, 36, 37, 38, 39, 40, 41, 42, 43, 44, 45, 46, 47, 48, 49, 50, 51, 52] (by decide +kernel) (by decide +kernel)
set_option maxRecDepth 20000 in
theorem gX5_bringRecallOn_X5_latestAboard : GoodIn wsX5_bringRecallOn (wsV RX5 225 RX5 yX5_latestAboard wsX5_latestAboard) := goodIn_app (goodIn_of _ (by decide +kernel)) ggX5_bringRecallOn_X5_latestAboard
set_option maxRecDepth 20000 in
theorem ggX5_bringRecallOn_X5_firstToMoveOn : GoodIn wsX5_bringRecallOn wsX5_firstToMoveOn := goodIn_r _ [15, 6, 7, 25, 26, 27, 28, 29, 30, 31, 32, 33, 34, 35, 36, 37, 38, 39, 40, 41, 42, 43, 44, 45, 46, 47, 48, 49, 50, 51, 52] (by decide +kernel) (by decide +kernel)
set_option maxRecDepth 20000 in
theorem gX5_bringRecallOn_X5_firstToMoveOn : GoodIn wsX5_bringRecallOn (wsV RX5 228 RX5 yX5_firstToMoveOn wsX5_firstToMoveOn) := goodIn_app (goodIn_of _ (by decide +kernel)) ggX5_bringRecallOn_X5_firstToMoveOn
theorem dX5_bringRecallOn_0 : decode cX5_bringRecallOn 0 = .ok (.aload_n 1, 1) := by decide +kernel
theorem dX5_bringRecallOn_1 : decode cX5_bringRecallOn 1 = .ok (.getfield 138, 3) := by decide +kernel
theorem dX5_bringRecallOn_4 : decode cX5_bringRecallOn 4 = .ok (.ifCond .le 16, 3) := by decide +kernel
theorem dX5_bringRecallOn_7 : decode cX5_bringRecallOn 7 = .ok (.aload_n 0, 1) := by decide +kernel
theorem dX5_bringRecallOn_8 : decode cX5_bringRecallOn 8 = .ok (.aload_n 1, 1) := by decide +kernel
theorem dX5_bringRecallOn_9 : decode cX5_bringRecallOn 9 = .ok (.invokevirtual 151, 3) := by decide +kernel
theorem dX5_bringRecallOn_12 : decode cX5_bringRecallOn 12 = .ok (.ifCond .ne 8, 3) := by decide +kernel
theorem dX5_bringRecallOn_15 : decode cX5_bringRecallOn 15 = .ok (.aload_n 1, 1) := by decide +kernel
theorem dX5_bringRecallOn_16 : decode cX5_bringRecallOn 16 = .ok (.iconst 0, 1) := by decide +kernel
theorem dX5_bringRecallOn_17 : decode cX5_bringRecallOn 17 = .ok (.putfield 138, 3) := by decide +kernel
theorem dX5_bringRecallOn_20 : decode cX5_bringRecallOn 20 = .ok (.aload_n 1, 1) := by decide +kernel
theorem dX5_bringRecallOn_21 : decode cX5_bringRecallOn 21 = .ok (.getfield 138, 3) := by decide +kernel
theorem dX5_bringRecallOn_24 : decode cX5_bringRecallOn 24 = .ok (.ifCond .eq 4, 3) := by decide +kernel
theorem dX5_bringRecallOn_27 : decode cX5_bringRecallOn 27 = .ok (.return_, 1) := by decide +kernel
theorem dX5_bringRecallOn_28 : decode cX5_bringRecallOn 28 = .ok (.aload_n 1, 1) := by decide +kernel
theorem dX5_bringRecallOn_29 : decode cX5_bringRecallOn 29 = .ok (.aconst_null, 1) := by decide +kernel
theorem dX5_bringRecallOn_30 : decode cX5_bringRecallOn 30 = .ok (.putfield 155, 3) := by decide +kernel
theorem dX5_bringRecallOn_33 : decode cX5_bringRecallOn 33 = .ok (.aload_n 0, 1) := by decide +kernel
theorem dX5_bringRecallOn_34 : decode cX5_bringRecallOn 34 = .ok (.aload_n 1, 1) := by decide +kernel
theorem dX5_bringRecallOn_35 : decode cX5_bringRecallOn 35 = .ok (.invokevirtual 225, 3) := by decide +kernel
theorem dX5_bringRecallOn_38 : decode cX5_bringRecallOn 38 = .ok (.ifnonnull 16, 3) := by decide +kernel
theorem dX5_bringRecallOn_41 : decode cX5_bringRecallOn 41 = .ok (.aload_n 0, 1) := by decide +kernel
theorem dX5_bringRecallOn_42 : decode cX5_bringRecallOn 42 = .ok (.aload_n 1, 1) := by decide +kernel
theorem dX5_bringRecallOn_43 : decode cX5_bringRecallOn 43 = .ok (.invokevirtual 228, 3) := by decide +kernel
theorem dX5_bringRecallOn_46 : decode cX5_bringRecallOn 46 = .ok (.ifnonnull 8, 3) := by decide +kernel
theorem dX5_bringRecallOn_49 : decode cX5_bringRecallOn 49 = .ok (.aload_n 1, 1) := by decide +kernel
theorem dX5_bringRecallOn_50 : decode cX5_bringRecallOn 50 = .ok (.iconst 3, 1) := by decide +kernel
theorem dX5_bringRecallOn_51 : decode cX5_bringRecallOn 51 = .ok (.putfield 80, 3) := by decide +kernel
theorem dX5_bringRecallOn_54 : decode cX5_bringRecallOn 54 = .ok (.return_, 1) := by decide +kernel
set_option maxRecDepth 20000 in
theorem ggX5_doRecallTurn_X5_latestAboard : GoodIn wsX5_doRecallTurn wsX5_latestAboard := goodIn_r _ [5, 6, 7, 89, 90, 91, 92, 93, 94, 95, 96, 97, 98, 99, 100, 73, 74, 75, 76, 77, 78, 79, 80, 81, 82, 83, 84, 85, 86, 87, 88] (by decide +kernel) (by decide +kernel)
set_option maxRecDepth 20000 in
theorem gX5_doRecallTurn_X5_latestAboard : GoodIn wsX5_doRecallTurn (wsV RX5 225 RX5 yX5_latestAboard wsX5_latestAboard) := goodIn_app (goodIn_of _ (by decide +kernel)) ggX5_doRecallTurn_X5_latestAboard
set_option maxRecDepth 20000 in
theorem ggX5_doRecallTurn_X5_bringOff : GoodIn wsX5_doRecallTurn wsX5_bringOff := goodIn_r _ [11, 12, 13, 14, 15, 16, 17, 18, 19, 20, 21, 22, 23, 24, 25, 26, 27, 28, 29, 30, 31, 32, 33, 34, 35, 36, 37, 38, 4, 39, 40, 41, 42, 43, 44, 73, 74, 75, 76, 77, 78, 79, 80, 81, 82, 83, 84, 85, 86, 87, 88, 101, 102, 103, 104, 105, 106, 107, 108, 109, 110, 111, 112, 113, 114, 115, 116, 117, 89, 90, 91, 92, 93, 94, 95, 96, 97, 98, 99, 100, 118, 119, 120] (by decide +kernel) (by decide +kernel)
set_option maxRecDepth 20000 in
theorem gX5_doRecallTurn_X5_bringOff : GoodIn wsX5_doRecallTurn (wsV RX5 231 RX5 yX5_bringOff wsX5_bringOff) := goodIn_app (goodIn_of _ (by decide +kernel)) ggX5_doRecallTurn_X5_bringOff
set_option maxRecDepth 20000 in
theorem ggX5_doRecallTurn_X5_writeLog : GoodIn wsX5_doRecallTurn wsX5_writeLog := goodIn_r _ [48, 49, 50, 51, 52, 89, 90, 91, 92, 93, 94, 95, 96, 97, 98, 99, 100, 73, 74, 75, 76, 77, 78, 79, 80, 81, 82, 83, 84, 85, 86, 87, 88, 101, 102, 103, 104, 105, 106, 107, 108, 109] (by decide +kernel) (by decide +kernel)
set_option maxRecDepth 20000 in
theorem gX5_doRecallTurn_X5_writeLog : GoodIn wsX5_doRecallTurn (wsV RX5 173 RX5 yX5_writeLog wsX5_writeLog) := goodIn_app (goodIn_of _ (by decide +kernel)) ggX5_doRecallTurn_X5_writeLog
set_option maxRecDepth 20000 in
theorem ggX5_doRecallTurn_X5_firstToMoveOn : GoodIn wsX5_doRecallTurn wsX5_firstToMoveOn := goodIn_r _ [56, 6, 7, 89, 90, 91, 92, 93, 94, 95, 96, 97, 98, 99, 100, 73, 74, 75, 76, 77, 78, 79, 80, 81, 82, 83, 84, 85, 86, 87, 88] (by decide +kernel) (by decide +kernel)
set_option maxRecDepth 20000 in
theorem gX5_doRecallTurn_X5_firstToMoveOn : GoodIn wsX5_doRecallTurn (wsV RX5 228 RX5 yX5_firstToMoveOn wsX5_firstToMoveOn) := goodIn_app (goodIn_of _ (by decide +kernel)) ggX5_doRecallTurn_X5_firstToMoveOn
set_option maxRecDepth 20000 in
theorem ggX5_doRecallTurn_X5_nextOfLine : GoodIn wsX5_doRecallTurn wsX5_nextOfLine := goodIn_r _ [60, 61, 62, 63, 64, 65, 66, 67, 68, 69, 70, 71, 72, 89, 90, 91, 92, 93, 94, 95, 96, 97, 98, 99, 100, 101, 102, 103, 104, 105, 106, 107, 108, 109, 110, 111, 112, 113, 114, 115, 116, 117] (by decide +kernel) (by decide +kernel)
set_option maxRecDepth 20000 in
theorem gX5_doRecallTurn_X5_nextOfLine : GoodIn wsX5_doRecallTurn (wsV RX5 235 RX5 yX5_nextOfLine wsX5_nextOfLine) := goodIn_app (goodIn_of _ (by decide +kernel)) ggX5_doRecallTurn_X5_nextOfLine
theorem dX5_doRecallTurn_0 : decode cX5_doRecallTurn 0 = .ok (.aload_n 0, 1) := by decide +kernel
theorem dX5_doRecallTurn_1 : decode cX5_doRecallTurn 1 = .ok (.aload_n 1, 1) := by decide +kernel
theorem dX5_doRecallTurn_2 : decode cX5_doRecallTurn 2 = .ok (.invokevirtual 225, 3) := by decide +kernel
theorem dX5_doRecallTurn_5 : decode cX5_doRecallTurn 5 = .ok (.astore_n 2, 1) := by decide +kernel
theorem dX5_doRecallTurn_6 : decode cX5_doRecallTurn 6 = .ok (.aload_n 2, 1) := by decide +kernel
theorem dX5_doRecallTurn_7 : decode cX5_doRecallTurn 7 = .ok (.ifnull 17, 3) := by decide +kernel
theorem dX5_doRecallTurn_10 : decode cX5_doRecallTurn 10 = .ok (.aload_n 0, 1) := by decide +kernel
theorem dX5_doRecallTurn_11 : decode cX5_doRecallTurn 11 = .ok (.aload_n 2, 1) := by decide +kernel
theorem dX5_doRecallTurn_12 : decode cX5_doRecallTurn 12 = .ok (.invokevirtual 231, 3) := by decide +kernel
theorem dX5_doRecallTurn_15 : decode cX5_doRecallTurn 15 = .ok (.aload_n 0, 1) := by decide +kernel
theorem dX5_doRecallTurn_16 : decode cX5_doRecallTurn 16 = .ok (.bipush 6, 2) := by decide +kernel
theorem dX5_doRecallTurn_18 : decode cX5_doRecallTurn 18 = .ok (.aload_n 2, 1) := by decide +kernel
theorem dX5_doRecallTurn_19 : decode cX5_doRecallTurn 19 = .ok (.aload_n 1, 1) := by decide +kernel
theorem dX5_doRecallTurn_20 : decode cX5_doRecallTurn 20 = .ok (.invokevirtual 173, 3) := by decide +kernel
theorem dX5_doRecallTurn_23 : decode cX5_doRecallTurn 23 = .ok (.return_, 1) := by decide +kernel
theorem dX5_doRecallTurn_24 : decode cX5_doRecallTurn 24 = .ok (.aload_n 0, 1) := by decide +kernel
theorem dX5_doRecallTurn_25 : decode cX5_doRecallTurn 25 = .ok (.aload_n 1, 1) := by decide +kernel
theorem dX5_doRecallTurn_26 : decode cX5_doRecallTurn 26 = .ok (.invokevirtual 228, 3) := by decide +kernel
theorem dX5_doRecallTurn_29 : decode cX5_doRecallTurn 29 = .ok (.astore_n 3, 1) := by decide +kernel
theorem dX5_doRecallTurn_30 : decode cX5_doRecallTurn 30 = .ok (.aload_n 3, 1) := by decide +kernel
theorem dX5_doRecallTurn_31 : decode cX5_doRecallTurn 31 = .ok (.ifnonnull 4, 3) := by decide +kernel
theorem dX5_doRecallTurn_34 : decode cX5_doRecallTurn 34 = .ok (.return_, 1) := by decide +kernel
theorem dX5_doRecallTurn_35 : decode cX5_doRecallTurn 35 = .ok (.aload_n 0, 1) := by decide +kernel
theorem dX5_doRecallTurn_36 : decode cX5_doRecallTurn 36 = .ok (.aload_n 1, 1) := by decide +kernel
theorem dX5_doRecallTurn_37 : decode cX5_doRecallTurn 37 = .ok (.aload_n 3, 1) := by decide +kernel
theorem dX5_doRecallTurn_38 : decode cX5_doRecallTurn 38 = .ok (.getfield 234, 3) := by decide +kernel
theorem dX5_doRecallTurn_41 : decode cX5_doRecallTurn 41 = .ok (.invokevirtual 235, 3) := by decide +kernel
theorem dX5_doRecallTurn_44 : decode cX5_doRecallTurn 44 = .ok (.astore 4, 2) := by decide +kernel
theorem dX5_doRecallTurn_46 : decode cX5_doRecallTurn 46 = .ok (.aload 4, 2) := by decide +kernel
theorem dX5_doRecallTurn_48 : decode cX5_doRecallTurn 48 = .ok (.ifnonnull 27, 3) := by decide +kernel
theorem dX5_doRecallTurn_51 : decode cX5_doRecallTurn 51 = .ok (.aload_n 3, 1) := by decide +kernel
theorem dX5_doRecallTurn_52 : decode cX5_doRecallTurn 52 = .ok (.iconst 5, 1) := by decide +kernel
theorem dX5_doRecallTurn_53 : decode cX5_doRecallTurn 53 = .ok (.putfield 120, 3) := by decide +kernel
theorem dX5_doRecallTurn_56 : decode cX5_doRecallTurn 56 = .ok (.aload_n 3, 1) := by decide +kernel
theorem dX5_doRecallTurn_57 : decode cX5_doRecallTurn 57 = .ok (.aload_n 3, 1) := by decide +kernel
theorem dX5_doRecallTurn_58 : decode cX5_doRecallTurn 58 = .ok (.getfield 239, 3) := by decide +kernel
theorem dX5_doRecallTurn_61 : decode cX5_doRecallTurn 61 = .ok (.putfield 242, 3) := by decide +kernel
theorem dX5_doRecallTurn_64 : decode cX5_doRecallTurn 64 = .ok (.aload_n 0, 1) := by decide +kernel
theorem dX5_doRecallTurn_65 : decode cX5_doRecallTurn 65 = .ok (.bipush 8, 2) := by decide +kernel
theorem dX5_doRecallTurn_67 : decode cX5_doRecallTurn 67 = .ok (.aload_n 3, 1) := by decide +kernel
theorem dX5_doRecallTurn_68 : decode cX5_doRecallTurn 68 = .ok (.aload_n 1, 1) := by decide +kernel
theorem dX5_doRecallTurn_69 : decode cX5_doRecallTurn 69 = .ok (.invokevirtual 173, 3) := by decide +kernel
theorem dX5_doRecallTurn_72 : decode cX5_doRecallTurn 72 = .ok (.goto 43, 3) := by decide +kernel
theorem dX5_doRecallTurn_75 : decode cX5_doRecallTurn 75 = .ok (.aload_n 3, 1) := by decide +kernel
theorem dX5_doRecallTurn_76 : decode cX5_doRecallTurn 76 = .ok (.aload 4, 2) := by decide +kernel
theorem dX5_doRecallTurn_78 : decode cX5_doRecallTurn 78 = .ok (.putfield 122, 3) := by decide +kernel
theorem dX5_doRecallTurn_81 : decode cX5_doRecallTurn 81 = .ok (.aload_n 3, 1) := by decide +kernel
theorem dX5_doRecallTurn_82 : decode cX5_doRecallTurn 82 = .ok (.aload_n 3, 1) := by decide +kernel
theorem dX5_doRecallTurn_83 : decode cX5_doRecallTurn 83 = .ok (.getfield 120, 3) := by decide +kernel
theorem dX5_doRecallTurn_86 : decode cX5_doRecallTurn 86 = .ok (.ifCond .ne 7, 3) := by decide +kernel
theorem dX5_doRecallTurn_89 : decode cX5_doRecallTurn 89 = .ok (.iconst 0, 1) := by decide +kernel
theorem dX5_doRecallTurn_90 : decode cX5_doRecallTurn 90 = .ok (.goto 4, 3) := by decide +kernel
theorem dX5_doRecallTurn_93 : decode cX5_doRecallTurn 93 = .ok (.iconst 1, 1) := by decide +kernel
theorem dX5_doRecallTurn_94 : decode cX5_doRecallTurn 94 = .ok (.putfield 120, 3) := by decide +kernel
theorem dX5_doRecallTurn_97 : decode cX5_doRecallTurn 97 = .ok (.aload_n 3, 1) := by decide +kernel
theorem dX5_doRecallTurn_98 : decode cX5_doRecallTurn 98 = .ok (.dup, 1) := by decide +kernel
theorem dX5_doRecallTurn_99 : decode cX5_doRecallTurn 99 = .ok (.getfield 245, 3) := by decide +kernel
theorem dX5_doRecallTurn_102 : decode cX5_doRecallTurn 102 = .ok (.iconst 1, 1) := by decide +kernel
theorem dX5_doRecallTurn_103 : decode cX5_doRecallTurn 103 = .ok (.iadd, 1) := by decide +kernel
theorem dX5_doRecallTurn_104 : decode cX5_doRecallTurn 104 = .ok (.putfield 245, 3) := by decide +kernel
theorem dX5_doRecallTurn_107 : decode cX5_doRecallTurn 107 = .ok (.aload_n 0, 1) := by decide +kernel
theorem dX5_doRecallTurn_108 : decode cX5_doRecallTurn 108 = .ok (.bipush 7, 2) := by decide +kernel
theorem dX5_doRecallTurn_110 : decode cX5_doRecallTurn 110 = .ok (.aload_n 3, 1) := by decide +kernel
theorem dX5_doRecallTurn_111 : decode cX5_doRecallTurn 111 = .ok (.aload_n 1, 1) := by decide +kernel
theorem dX5_doRecallTurn_112 : decode cX5_doRecallTurn 112 = .ok (.invokevirtual 173, 3) := by decide +kernel
theorem dX5_doRecallTurn_115 : decode cX5_doRecallTurn 115 = .ok (.return_, 1) := by decide +kernel
theorem dX5_latestAboard_0 : decode cX5_latestAboard 0 = .ok (.aconst_null, 1) := by decide +kernel
theorem dX5_latestAboard_1 : decode cX5_latestAboard 1 = .ok (.astore_n 2, 1) := by decide +kernel
theorem dX5_latestAboard_2 : decode cX5_latestAboard 2 = .ok (.iconst 0, 1) := by decide +kernel
theorem dX5_latestAboard_3 : decode cX5_latestAboard 3 = .ok (.istore_n 3, 1) := by decide +kernel
theorem dX5_latestAboard_4 : decode cX5_latestAboard 4 = .ok (.iload_n 3, 1) := by decide +kernel
theorem dX5_latestAboard_5 : decode cX5_latestAboard 5 = .ok (.aload_n 0, 1) := by decide +kernel
theorem dX5_latestAboard_6 : decode cX5_latestAboard 6 = .ok (.getfield 100, 3) := by decide +kernel
theorem dX5_latestAboard_9 : decode cX5_latestAboard 9 = .ok (.if_icmp .ge 54, 3) := by decide +kernel
theorem dX5_latestAboard_12 : decode cX5_latestAboard 12 = .ok (.aload_n 0, 1) := by decide +kernel
theorem dX5_latestAboard_13 : decode cX5_latestAboard 13 = .ok (.getfield 29, 3) := by decide +kernel
theorem dX5_latestAboard_16 : decode cX5_latestAboard 16 = .ok (.iload_n 3, 1) := by decide +kernel
theorem dX5_latestAboard_17 : decode cX5_latestAboard 17 = .ok (.aaload, 1) := by decide +kernel
theorem dX5_latestAboard_18 : decode cX5_latestAboard 18 = .ok (.astore 4, 2) := by decide +kernel
theorem dX5_latestAboard_20 : decode cX5_latestAboard 20 = .ok (.aload 4, 2) := by decide +kernel
theorem dX5_latestAboard_22 : decode cX5_latestAboard 22 = .ok (.getfield 122, 3) := by decide +kernel
theorem dX5_latestAboard_25 : decode cX5_latestAboard 25 = .ok (.aload_n 1, 1) := by decide +kernel
theorem dX5_latestAboard_26 : decode cX5_latestAboard 26 = .ok (.if_acmp .ne 31, 3) := by decide +kernel
theorem dX5_latestAboard_29 : decode cX5_latestAboard 29 = .ok (.aload 4, 2) := by decide +kernel
theorem dX5_latestAboard_31 : decode cX5_latestAboard 31 = .ok (.getfield 120, 3) := by decide +kernel
theorem dX5_latestAboard_34 : decode cX5_latestAboard 34 = .ok (.iconst 3, 1) := by decide +kernel
theorem dX5_latestAboard_35 : decode cX5_latestAboard 35 = .ok (.if_icmp .ne 22, 3) := by decide +kernel
theorem dX5_latestAboard_38 : decode cX5_latestAboard 38 = .ok (.aload_n 2, 1) := by decide +kernel
theorem dX5_latestAboard_39 : decode cX5_latestAboard 39 = .ok (.ifnull 15, 3) := by decide +kernel
theorem dX5_latestAboard_42 : decode cX5_latestAboard 42 = .ok (.aload 4, 2) := by decide +kernel
theorem dX5_latestAboard_44 : decode cX5_latestAboard 44 = .ok (.getfield 194, 3) := by decide +kernel
theorem dX5_latestAboard_47 : decode cX5_latestAboard 47 = .ok (.aload_n 2, 1) := by decide +kernel
theorem dX5_latestAboard_48 : decode cX5_latestAboard 48 = .ok (.getfield 194, 3) := by decide +kernel
theorem dX5_latestAboard_51 : decode cX5_latestAboard 51 = .ok (.if_icmp .le 6, 3) := by decide +kernel
theorem dX5_latestAboard_54 : decode cX5_latestAboard 54 = .ok (.aload 4, 2) := by decide +kernel
theorem dX5_latestAboard_56 : decode cX5_latestAboard 56 = .ok (.astore_n 2, 1) := by decide +kernel
theorem dX5_latestAboard_57 : decode cX5_latestAboard 57 = .ok (.iinc 3 1, 3) := by decide +kernel
theorem dX5_latestAboard_60 : decode cX5_latestAboard 60 = .ok (.goto (-56), 3) := by decide +kernel
theorem dX5_latestAboard_63 : decode cX5_latestAboard 63 = .ok (.aload_n 2, 1) := by decide +kernel
theorem dX5_latestAboard_64 : decode cX5_latestAboard 64 = .ok (.areturn, 1) := by decide +kernel
theorem dX5_firstToMoveOn_0 : decode cX5_firstToMoveOn 0 = .ok (.iconst 0, 1) := by decide +kernel
theorem dX5_firstToMoveOn_1 : decode cX5_firstToMoveOn 1 = .ok (.istore_n 2, 1) := by decide +kernel
theorem dX5_firstToMoveOn_2 : decode cX5_firstToMoveOn 2 = .ok (.iload_n 2, 1) := by decide +kernel
theorem dX5_firstToMoveOn_3 : decode cX5_firstToMoveOn 3 = .ok (.aload_n 0, 1) := by decide +kernel
theorem dX5_firstToMoveOn_4 : decode cX5_firstToMoveOn 4 = .ok (.getfield 100, 3) := by decide +kernel
theorem dX5_firstToMoveOn_7 : decode cX5_firstToMoveOn 7 = .ok (.if_icmp .ge 42, 3) := by decide +kernel
theorem dX5_firstToMoveOn_10 : decode cX5_firstToMoveOn 10 = .ok (.aload_n 0, 1) := by decide +kernel
theorem dX5_firstToMoveOn_11 : decode cX5_firstToMoveOn 11 = .ok (.getfield 29, 3) := by decide +kernel
theorem dX5_firstToMoveOn_14 : decode cX5_firstToMoveOn 14 = .ok (.iload_n 2, 1) := by decide +kernel
theorem dX5_firstToMoveOn_15 : decode cX5_firstToMoveOn 15 = .ok (.aaload, 1) := by decide +kernel
theorem dX5_firstToMoveOn_16 : decode cX5_firstToMoveOn 16 = .ok (.astore_n 3, 1) := by decide +kernel
theorem dX5_firstToMoveOn_17 : decode cX5_firstToMoveOn 17 = .ok (.aload_n 3, 1) := by decide +kernel
theorem dX5_firstToMoveOn_18 : decode cX5_firstToMoveOn 18 = .ok (.getfield 122, 3) := by decide +kernel
theorem dX5_firstToMoveOn_21 : decode cX5_firstToMoveOn 21 = .ok (.aload_n 1, 1) := by decide +kernel
theorem dX5_firstToMoveOn_22 : decode cX5_firstToMoveOn 22 = .ok (.if_acmp .ne 21, 3) := by decide +kernel
theorem dX5_firstToMoveOn_25 : decode cX5_firstToMoveOn 25 = .ok (.aload_n 3, 1) := by decide +kernel
theorem dX5_firstToMoveOn_26 : decode cX5_firstToMoveOn 26 = .ok (.getfield 120, 3) := by decide +kernel
theorem dX5_firstToMoveOn_29 : decode cX5_firstToMoveOn 29 = .ok (.iconst 4, 1) := by decide +kernel
theorem dX5_firstToMoveOn_30 : decode cX5_firstToMoveOn 30 = .ok (.if_icmp .gt 13, 3) := by decide +kernel
theorem dX5_firstToMoveOn_33 : decode cX5_firstToMoveOn 33 = .ok (.aload_n 3, 1) := by decide +kernel
theorem dX5_firstToMoveOn_34 : decode cX5_firstToMoveOn 34 = .ok (.getfield 120, 3) := by decide +kernel
theorem dX5_firstToMoveOn_37 : decode cX5_firstToMoveOn 37 = .ok (.iconst 3, 1) := by decide +kernel
theorem dX5_firstToMoveOn_38 : decode cX5_firstToMoveOn 38 = .ok (.if_icmp .eq 5, 3) := by decide +kernel
theorem dX5_firstToMoveOn_41 : decode cX5_firstToMoveOn 41 = .ok (.aload_n 3, 1) := by decide +kernel
theorem dX5_firstToMoveOn_42 : decode cX5_firstToMoveOn 42 = .ok (.areturn, 1) := by decide +kernel
theorem dX5_firstToMoveOn_43 : decode cX5_firstToMoveOn 43 = .ok (.iinc 2 1, 3) := by decide +kernel
theorem dX5_firstToMoveOn_46 : decode cX5_firstToMoveOn 46 = .ok (.goto (-44), 3) := by decide +kernel
theorem dX5_firstToMoveOn_49 : decode cX5_firstToMoveOn 49 = .ok (.aconst_null, 1) := by decide +kernel
theorem dX5_firstToMoveOn_50 : decode cX5_firstToMoveOn 50 = .ok (.areturn, 1) := by decide +kernel
set_option maxRecDepth 20000 in
theorem ggX5_nextOfLine_X2_takesTickets : GoodIn wsX5_nextOfLine wsX2_takesTickets := goodIn_r _ [6, 7, 8, 9, 10, 4, 11, 12, 25, 26, 27, 28, 29, 30, 31, 32, 33] (by decide +kernel) (by decide +kernel)
set_option maxRecDepth 20000 in
theorem gX5_nextOfLine_X2_takesTickets_n96 : GoodIn wsX5_nextOfLine (wsX2_takesTickets) := ggX5_nextOfLine_X2_takesTickets
theorem dX5_nextOfLine_0 : decode cX5_nextOfLine 0 = .ok (.aconst_null, 1) := by decide +kernel
theorem dX5_nextOfLine_1 : decode cX5_nextOfLine 1 = .ok (.astore_n 3, 1) := by decide +kernel
theorem dX5_nextOfLine_2 : decode cX5_nextOfLine 2 = .ok (.iconst 0, 1) := by decide +kernel
theorem dX5_nextOfLine_3 : decode cX5_nextOfLine 3 = .ok (.istore 4, 2) := by decide +kernel
theorem dX5_nextOfLine_5 : decode cX5_nextOfLine 5 = .ok (.iload 4, 2) := by decide +kernel
theorem dX5_nextOfLine_7 : decode cX5_nextOfLine 7 = .ok (.aload_n 0, 1) := by decide +kernel
theorem dX5_nextOfLine_8 : decode cX5_nextOfLine 8 = .ok (.getfield 65, 3) := by decide +kernel
theorem dX5_nextOfLine_11 : decode cX5_nextOfLine 11 = .ok (.if_icmp .ge 81, 3) := by decide +kernel
theorem dX5_nextOfLine_14 : decode cX5_nextOfLine 14 = .ok (.aload_n 0, 1) := by decide +kernel
theorem dX5_nextOfLine_15 : decode cX5_nextOfLine 15 = .ok (.getfield 23, 3) := by decide +kernel
theorem dX5_nextOfLine_18 : decode cX5_nextOfLine 18 = .ok (.iload 4, 2) := by decide +kernel
theorem dX5_nextOfLine_20 : decode cX5_nextOfLine 20 = .ok (.aaload, 1) := by decide +kernel
theorem dX5_nextOfLine_21 : decode cX5_nextOfLine 21 = .ok (.astore 5, 2) := by decide +kernel
theorem dX5_nextOfLine_23 : decode cX5_nextOfLine 23 = .ok (.aload 5, 2) := by decide +kernel
theorem dX5_nextOfLine_25 : decode cX5_nextOfLine 25 = .ok (.getfield 106, 3) := by decide +kernel
theorem dX5_nextOfLine_28 : decode cX5_nextOfLine 28 = .ok (.aload_n 1, 1) := by decide +kernel
theorem dX5_nextOfLine_29 : decode cX5_nextOfLine 29 = .ok (.getfield 106, 3) := by decide +kernel
theorem dX5_nextOfLine_32 : decode cX5_nextOfLine 32 = .ok (.if_icmp .ne 54, 3) := by decide +kernel
theorem dX5_nextOfLine_35 : decode cX5_nextOfLine 35 = .ok (.aload 5, 2) := by decide +kernel
theorem dX5_nextOfLine_37 : decode cX5_nextOfLine 37 = .ok (.getfield 83, 3) := by decide +kernel
theorem dX5_nextOfLine_40 : decode cX5_nextOfLine 40 = .ok (.aload_n 1, 1) := by decide +kernel
theorem dX5_nextOfLine_41 : decode cX5_nextOfLine 41 = .ok (.getfield 83, 3) := by decide +kernel
theorem dX5_nextOfLine_44 : decode cX5_nextOfLine 44 = .ok (.if_icmp .le 42, 3) := by decide +kernel
theorem dX5_nextOfLine_47 : decode cX5_nextOfLine 47 = .ok (.aload 5, 2) := by decide +kernel
theorem dX5_nextOfLine_49 : decode cX5_nextOfLine 49 = .ok (.invokevirtual 96, 3) := by decide +kernel
theorem dX5_nextOfLine_52 : decode cX5_nextOfLine 52 = .ok (.ifCond .eq 34, 3) := by decide +kernel
theorem dX5_nextOfLine_55 : decode cX5_nextOfLine 55 = .ok (.aload 5, 2) := by decide +kernel
theorem dX5_nextOfLine_57 : decode cX5_nextOfLine 57 = .ok (.getfield 76, 3) := by decide +kernel
theorem dX5_nextOfLine_60 : decode cX5_nextOfLine 60 = .ok (.getfield 103, 3) := by decide +kernel
theorem dX5_nextOfLine_63 : decode cX5_nextOfLine 63 = .ok (.iload_n 2, 1) := by decide +kernel
theorem dX5_nextOfLine_64 : decode cX5_nextOfLine 64 = .ok (.if_icmp .lt 22, 3) := by decide +kernel
theorem dX5_nextOfLine_67 : decode cX5_nextOfLine 67 = .ok (.aload_n 3, 1) := by decide +kernel
theorem dX5_nextOfLine_68 : decode cX5_nextOfLine 68 = .ok (.ifnull 15, 3) := by decide +kernel
theorem dX5_nextOfLine_71 : decode cX5_nextOfLine 71 = .ok (.aload 5, 2) := by decide +kernel
theorem dX5_nextOfLine_73 : decode cX5_nextOfLine 73 = .ok (.getfield 83, 3) := by decide +kernel
theorem dX5_nextOfLine_76 : decode cX5_nextOfLine 76 = .ok (.aload_n 3, 1) := by decide +kernel
theorem dX5_nextOfLine_77 : decode cX5_nextOfLine 77 = .ok (.getfield 83, 3) := by decide +kernel
theorem dX5_nextOfLine_80 : decode cX5_nextOfLine 80 = .ok (.if_icmp .ge 6, 3) := by decide +kernel
theorem dX5_nextOfLine_83 : decode cX5_nextOfLine 83 = .ok (.aload 5, 2) := by decide +kernel
theorem dX5_nextOfLine_85 : decode cX5_nextOfLine 85 = .ok (.astore_n 3, 1) := by decide +kernel
theorem dX5_nextOfLine_86 : decode cX5_nextOfLine 86 = .ok (.iinc 4 1, 3) := by decide +kernel
theorem dX5_nextOfLine_89 : decode cX5_nextOfLine 89 = .ok (.goto (-84), 3) := by decide +kernel
theorem dX5_nextOfLine_92 : decode cX5_nextOfLine 92 = .ok (.aload_n 3, 1) := by decide +kernel
theorem dX5_nextOfLine_93 : decode cX5_nextOfLine 93 = .ok (.areturn, 1) := by decide +kernel
set_option maxRecDepth 20000 in
theorem ggX5_depart_X5_sailingNumbered : GoodIn wsX5_depart wsX5_sailingNumbered := goodIn_r _ [7, 8, 9, 10, 11, 6, 12, 60, 61, 62, 63, 64, 65, 66, 67, 68, 69, 70, 71] (by decide +kernel) (by decide +kernel)
set_option maxRecDepth 20000 in
theorem gX5_depart_X5_sailingNumbered : GoodIn wsX5_depart (wsV RX5 92 RX5 yX5_sailingNumbered wsX5_sailingNumbered) := goodIn_app (goodIn_of _ (by decide +kernel)) ggX5_depart_X5_sailingNumbered
set_option maxRecDepth 20000 in
theorem ggX5_depart_X5_hasBoardingTurn : GoodIn wsX5_depart wsX5_hasBoardingTurn := goodIn_r _ [16, 1, 2, 51, 52, 53, 54, 55, 56, 57, 58, 59, 60, 61, 62, 63, 64, 65, 66, 67, 68, 69, 70, 71, 72, 73, 74, 75, 76, 77, 78, 79, 80, 81, 82, 83, 84, 85, 86, 87] (by decide +kernel) (by decide +kernel)
set_option maxRecDepth 20000 in
theorem gX5_depart_X5_hasBoardingTurn : GoodIn wsX5_depart (wsV RX5 151 RX5 yX5_hasBoardingTurn wsX5_hasBoardingTurn) := goodIn_app (goodIn_of _ (by decide +kernel)) ggX5_depart_X5_hasBoardingTurn
set_option maxRecDepth 20000 in
theorem ggX5_depart_X5_endTicket : GoodIn wsX5_depart wsX5_endTicket := goodIn_r _ [20, 21, 22, 23, 24, 25, 26, 27, 28, 29, 30, 31, 32, 33, 34, 35, 36, 37, 38, 39, 40, 41, 42, 43, 44, 45, 46, 47, 6, 48, 49, 50, 10, 11, 12, 72, 73, 74, 75, 76, 77, 78, 79, 80, 81, 82, 83, 84, 85, 86, 87, 51, 52, 53, 54, 55, 56, 57, 58, 59, 88, 89, 90, 91, 92, 93, 94, 95, 60, 61, 62, 63, 64, 65, 66, 67, 68, 69, 70, 71, 96, 97, 98] (by decide +kernel) (by decide +kernel)
set_option maxRecDepth 20000 in
theorem gX5_depart_X5_endTicket : GoodIn wsX5_depart (wsV RX5 248 RX5 yX5_endTicket wsX5_endTicket) := goodIn_app (goodIn_of _ (by decide +kernel)) ggX5_depart_X5_endTicket
theorem dX5_depart_0 : decode cX5_depart 0 = .ok (.aload_n 0, 1) := by decide +kernel
theorem dX5_depart_1 : decode cX5_depart 1 = .ok (.iload_n 1, 1) := by decide +kernel
theorem dX5_depart_2 : decode cX5_depart 2 = .ok (.invokevirtual 92, 3) := by decide +kernel
theorem dX5_depart_5 : decode cX5_depart 5 = .ok (.astore_n 2, 1) := by decide +kernel
theorem dX5_depart_6 : decode cX5_depart 6 = .ok (.aload_n 2, 1) := by decide +kernel
theorem dX5_depart_7 : decode cX5_depart 7 = .ok (.ifnull 27, 3) := by decide +kernel
theorem dX5_depart_10 : decode cX5_depart 10 = .ok (.aload_n 2, 1) := by decide +kernel
theorem dX5_depart_11 : decode cX5_depart 11 = .ok (.getfield 80, 3) := by decide +kernel
theorem dX5_depart_14 : decode cX5_depart 14 = .ok (.iconst 1, 1) := by decide +kernel
theorem dX5_depart_15 : decode cX5_depart 15 = .ok (.if_icmp .ne 19, 3) := by decide +kernel
theorem dX5_depart_18 : decode cX5_depart 18 = .ok (.aload_n 2, 1) := by decide +kernel
theorem dX5_depart_19 : decode cX5_depart 19 = .ok (.getfield 138, 3) := by decide +kernel
theorem dX5_depart_22 : decode cX5_depart 22 = .ok (.iconst (-1), 1) := by decide +kernel
theorem dX5_depart_23 : decode cX5_depart 23 = .ok (.if_icmp .ne 11, 3) := by decide +kernel
theorem dX5_depart_26 : decode cX5_depart 26 = .ok (.aload_n 0, 1) := by decide +kernel
theorem dX5_depart_27 : decode cX5_depart 27 = .ok (.aload_n 2, 1) := by decide +kernel
theorem dX5_depart_28 : decode cX5_depart 28 = .ok (.invokevirtual 151, 3) := by decide +kernel
theorem dX5_depart_31 : decode cX5_depart 31 = .ok (.ifCond .eq 5, 3) := by decide +kernel
theorem dX5_depart_34 : decode cX5_depart 34 = .ok (.iconst (-1), 1) := by decide +kernel
theorem dX5_depart_35 : decode cX5_depart 35 = .ok (.ireturn, 1) := by decide +kernel
theorem dX5_depart_36 : decode cX5_depart 36 = .ok (.iconst 0, 1) := by decide +kernel
theorem dX5_depart_37 : decode cX5_depart 37 = .ok (.istore_n 3, 1) := by decide +kernel
theorem dX5_depart_38 : decode cX5_depart 38 = .ok (.iconst 0, 1) := by decide +kernel
theorem dX5_depart_39 : decode cX5_depart 39 = .ok (.istore 4, 2) := by decide +kernel
theorem dX5_depart_41 : decode cX5_depart 41 = .ok (.iload 4, 2) := by decide +kernel
theorem dX5_depart_43 : decode cX5_depart 43 = .ok (.aload_n 0, 1) := by decide +kernel
theorem dX5_depart_44 : decode cX5_depart 44 = .ok (.getfield 100, 3) := by decide +kernel
theorem dX5_depart_47 : decode cX5_depart 47 = .ok (.if_icmp .ge 50, 3) := by decide +kernel
theorem dX5_depart_50 : decode cX5_depart 50 = .ok (.aload_n 0, 1) := by decide +kernel
theorem dX5_depart_51 : decode cX5_depart 51 = .ok (.getfield 29, 3) := by decide +kernel
theorem dX5_depart_54 : decode cX5_depart 54 = .ok (.iload 4, 2) := by decide +kernel
theorem dX5_depart_56 : decode cX5_depart 56 = .ok (.aaload, 1) := by decide +kernel
theorem dX5_depart_57 : decode cX5_depart 57 = .ok (.astore 5, 2) := by decide +kernel
theorem dX5_depart_59 : decode cX5_depart 59 = .ok (.aload 5, 2) := by decide +kernel
theorem dX5_depart_61 : decode cX5_depart 61 = .ok (.getfield 122, 3) := by decide +kernel
theorem dX5_depart_64 : decode cX5_depart 64 = .ok (.aload_n 2, 1) := by decide +kernel
theorem dX5_depart_65 : decode cX5_depart 65 = .ok (.if_acmp .ne 26, 3) := by decide +kernel
theorem dX5_depart_68 : decode cX5_depart 68 = .ok (.iload_n 3, 1) := by decide +kernel
theorem dX5_depart_69 : decode cX5_depart 69 = .ok (.aload 5, 2) := by decide +kernel
theorem dX5_depart_71 : decode cX5_depart 71 = .ok (.getfield 120, 3) := by decide +kernel
theorem dX5_depart_74 : decode cX5_depart 74 = .ok (.iconst 3, 1) := by decide +kernel
theorem dX5_depart_75 : decode cX5_depart 75 = .ok (.if_icmp .ne 7, 3) := by decide +kernel
theorem dX5_depart_78 : decode cX5_depart 78 = .ok (.iconst 1, 1) := by decide +kernel
theorem dX5_depart_79 : decode cX5_depart 79 = .ok (.goto 4, 3) := by decide +kernel
theorem dX5_depart_82 : decode cX5_depart 82 = .ok (.iconst 0, 1) := by decide +kernel
theorem dX5_depart_83 : decode cX5_depart 83 = .ok (.iadd, 1) := by decide +kernel
theorem dX5_depart_84 : decode cX5_depart 84 = .ok (.istore_n 3, 1) := by decide +kernel
theorem dX5_depart_85 : decode cX5_depart 85 = .ok (.aload_n 0, 1) := by decide +kernel
theorem dX5_depart_86 : decode cX5_depart 86 = .ok (.aload 5, 2) := by decide +kernel
theorem dX5_depart_88 : decode cX5_depart 88 = .ok (.invokevirtual 248, 3) := by decide +kernel
theorem dX5_depart_91 : decode cX5_depart 91 = .ok (.iinc 4 1, 3) := by decide +kernel
theorem dX5_depart_94 : decode cX5_depart 94 = .ok (.goto (-53), 3) := by decide +kernel
theorem dX5_depart_97 : decode cX5_depart 97 = .ok (.aload_n 2, 1) := by decide +kernel
theorem dX5_depart_98 : decode cX5_depart 98 = .ok (.iconst 2, 1) := by decide +kernel
theorem dX5_depart_99 : decode cX5_depart 99 = .ok (.putfield 80, 3) := by decide +kernel
theorem dX5_depart_102 : decode cX5_depart 102 = .ok (.iload_n 3, 1) := by decide +kernel
theorem dX5_depart_103 : decode cX5_depart 103 = .ok (.ireturn, 1) := by decide +kernel
set_option maxRecDepth 20000 in
theorem ggX5_endTicket_X3_clearPlace : GoodIn wsX5_endTicket wsX3_clearPlace := goodIn_r _ [4, 5, 6, 7, 8, 2, 9, 10, 11, 12, 13, 14, 15, 16, 17, 18, 19, 20, 21, 22, 23, 24, 35, 36, 37, 38, 39, 40, 41, 42, 43, 44, 45, 46, 47, 48, 49, 50, 60, 61, 62, 63, 64, 65, 66, 67] (by decide +kernel) (by decide +kernel)
set_option maxRecDepth 20000 in
theorem gX5_endTicket_X3_clearPlace_n218 : GoodIn wsX5_endTicket (wsX3_clearPlace) := ggX5_endTicket_X3_clearPlace
set_option maxRecDepth 20000 in
theorem ggX5_endTicket_X5_freeCabin : GoodIn wsX5_endTicket wsX5_freeCabin := goodIn_r _ [29, 30, 31, 32, 33, 28, 34, 35, 36, 37, 38, 39, 40, 41, 42, 43, 44, 45, 46, 47, 48, 49, 50, 68, 69, 70, 71, 72, 73, 74, 75, 76, 77, 78, 79, 80, 81, 82] (by decide +kernel) (by decide +kernel)
set_option maxRecDepth 20000 in
theorem gX5_endTicket_X5_freeCabin : GoodIn wsX5_endTicket (wsV RX5 222 RX5 yX5_freeCabin wsX5_freeCabin) := goodIn_app (goodIn_of _ (by decide +kernel)) ggX5_endTicket_X5_freeCabin
theorem dX5_endTicket_0 : decode cX5_endTicket 0 = .ok (.aload_n 1, 1) := by decide +kernel
theorem dX5_endTicket_1 : decode cX5_endTicket 1 = .ok (.getfield 120, 3) := by decide +kernel
theorem dX5_endTicket_4 : decode cX5_endTicket 4 = .ok (.iconst 3, 1) := by decide +kernel
theorem dX5_endTicket_5 : decode cX5_endTicket 5 = .ok (.if_icmp .ne 28, 3) := by decide +kernel
theorem dX5_endTicket_8 : decode cX5_endTicket 8 = .ok (.aload_n 1, 1) := by decide +kernel
theorem dX5_endTicket_9 : decode cX5_endTicket 9 = .ok (.getfield 122, 3) := by decide +kernel
theorem dX5_endTicket_12 : decode cX5_endTicket 12 = .ok (.getfield 76, 3) := by decide +kernel
theorem dX5_endTicket_15 : decode cX5_endTicket 15 = .ok (.aload_n 1, 1) := by decide +kernel
theorem dX5_endTicket_16 : decode cX5_endTicket 16 = .ok (.invokevirtual 218, 3) := by decide +kernel
theorem dX5_endTicket_19 : decode cX5_endTicket 19 = .ok (.aload_n 0, 1) := by decide +kernel
theorem dX5_endTicket_20 : decode cX5_endTicket 20 = .ok (.aload_n 1, 1) := by decide +kernel
theorem dX5_endTicket_21 : decode cX5_endTicket 21 = .ok (.invokevirtual 222, 3) := by decide +kernel
theorem dX5_endTicket_24 : decode cX5_endTicket 24 = .ok (.aload_n 1, 1) := by decide +kernel
theorem dX5_endTicket_25 : decode cX5_endTicket 25 = .ok (.bipush 6, 2) := by decide +kernel
theorem dX5_endTicket_27 : decode cX5_endTicket 27 = .ok (.putfield 120, 3) := by decide +kernel
theorem dX5_endTicket_30 : decode cX5_endTicket 30 = .ok (.goto 50, 3) := by decide +kernel
theorem dX5_endTicket_33 : decode cX5_endTicket 33 = .ok (.aload_n 1, 1) := by decide +kernel
theorem dX5_endTicket_34 : decode cX5_endTicket 34 = .ok (.getfield 120, 3) := by decide +kernel
theorem dX5_endTicket_37 : decode cX5_endTicket 37 = .ok (.iconst 4, 1) := by decide +kernel
theorem dX5_endTicket_38 : decode cX5_endTicket 38 = .ok (.if_icmp .ne 19, 3) := by decide +kernel
theorem dX5_endTicket_41 : decode cX5_endTicket 41 = .ok (.aload_n 1, 1) := by decide +kernel
theorem dX5_endTicket_42 : decode cX5_endTicket 42 = .ok (.iconst 5, 1) := by decide +kernel
theorem dX5_endTicket_43 : decode cX5_endTicket 43 = .ok (.putfield 120, 3) := by decide +kernel
theorem dX5_endTicket_46 : decode cX5_endTicket 46 = .ok (.aload_n 1, 1) := by decide +kernel
theorem dX5_endTicket_47 : decode cX5_endTicket 47 = .ok (.aload_n 1, 1) := by decide +kernel
theorem dX5_endTicket_48 : decode cX5_endTicket 48 = .ok (.getfield 239, 3) := by decide +kernel
theorem dX5_endTicket_51 : decode cX5_endTicket 51 = .ok (.putfield 242, 3) := by decide +kernel
theorem dX5_endTicket_54 : decode cX5_endTicket 54 = .ok (.goto 26, 3) := by decide +kernel
theorem dX5_endTicket_57 : decode cX5_endTicket 57 = .ok (.aload_n 1, 1) := by decide +kernel
theorem dX5_endTicket_58 : decode cX5_endTicket 58 = .ok (.getfield 120, 3) := by decide +kernel
theorem dX5_endTicket_61 : decode cX5_endTicket 61 = .ok (.ifCond .ne 19, 3) := by decide +kernel
theorem dX5_endTicket_64 : decode cX5_endTicket 64 = .ok (.aload_n 1, 1) := by decide +kernel
theorem dX5_endTicket_65 : decode cX5_endTicket 65 = .ok (.bipush 7, 2) := by decide +kernel
theorem dX5_endTicket_67 : decode cX5_endTicket 67 = .ok (.putfield 120, 3) := by decide +kernel
theorem dX5_endTicket_70 : decode cX5_endTicket 70 = .ok (.aload_n 1, 1) := by decide +kernel
theorem dX5_endTicket_71 : decode cX5_endTicket 71 = .ok (.aload_n 1, 1) := by decide +kernel
theorem dX5_endTicket_72 : decode cX5_endTicket 72 = .ok (.getfield 239, 3) := by decide +kernel
theorem dX5_endTicket_75 : decode cX5_endTicket 75 = .ok (.iconst 2, 1) := by decide +kernel
theorem dX5_endTicket_76 : decode cX5_endTicket 76 = .ok (.idiv, 1) := by decide +kernel
theorem dX5_endTicket_77 : decode cX5_endTicket 77 = .ok (.putfield 242, 3) := by decide +kernel
theorem dX5_endTicket_80 : decode cX5_endTicket 80 = .ok (.return_, 1) := by decide +kernel
set_option maxRecDepth 20000 in
theorem ggX5_off_X5_ticketNumbered : GoodIn wsX5_off wsX5_ticketNumbered := goodIn_r _ [5, 6, 7, 8, 9, 4, 10, 70, 71, 72, 73, 74, 75, 76, 77, 78, 79, 80, 81] (by decide +kernel) (by decide +kernel)
set_option maxRecDepth 20000 in
theorem gX5_off_X5_ticketNumbered : GoodIn wsX5_off (wsV RX5 116 RX5 yX5_ticketNumbered wsX5_ticketNumbered) := goodIn_app (goodIn_of _ (by decide +kernel)) ggX5_off_X5_ticketNumbered
set_option maxRecDepth 20000 in
theorem ggX5_off_X5_bringOff : GoodIn wsX5_off wsX5_bringOff := goodIn_r _ [14, 15, 16, 17, 18, 19, 20, 21, 22, 23, 24, 25, 26, 27, 28, 29, 30, 31, 32, 33, 34, 35, 36, 37, 38, 39, 40, 41, 4, 42, 43, 44, 8, 9, 10, 45, 46, 47, 48, 49, 50, 51, 52, 53, 54, 55, 56, 57, 58, 59, 60, 61, 62, 63, 64, 65, 66, 67, 68, 69, 82, 83, 84, 85, 86, 87, 88, 89, 70, 71, 72, 73, 74, 75, 76, 77, 78, 79, 80, 81, 90, 91, 92] (by decide +kernel) (by decide +kernel)
set_option maxRecDepth 20000 in
theorem gX5_off_X5_bringOff : GoodIn wsX5_off (wsV RX5 231 RX5 yX5_bringOff wsX5_bringOff) := goodIn_app (goodIn_of _ (by decide +kernel)) ggX5_off_X5_bringOff
theorem dX5_off_0 : decode cX5_off 0 = .ok (.aload_n 0, 1) := by decide +kernel
theorem dX5_off_1 : decode cX5_off 1 = .ok (.iload_n 1, 1) := by decide +kernel
theorem dX5_off_2 : decode cX5_off 2 = .ok (.invokevirtual 116, 3) := by decide +kernel
theorem dX5_off_5 : decode cX5_off 5 = .ok (.astore_n 2, 1) := by decide +kernel
theorem dX5_off_6 : decode cX5_off 6 = .ok (.aload_n 2, 1) := by decide +kernel
theorem dX5_off_7 : decode cX5_off 7 = .ok (.ifnull 18, 3) := by decide +kernel
theorem dX5_off_10 : decode cX5_off 10 = .ok (.aload_n 2, 1) := by decide +kernel
theorem dX5_off_11 : decode cX5_off 11 = .ok (.getfield 120, 3) := by decide +kernel
theorem dX5_off_14 : decode cX5_off 14 = .ok (.iconst 3, 1) := by decide +kernel
theorem dX5_off_15 : decode cX5_off 15 = .ok (.if_icmp .ne 10, 3) := by decide +kernel
theorem dX5_off_18 : decode cX5_off 18 = .ok (.aload_n 2, 1) := by decide +kernel
theorem dX5_off_19 : decode cX5_off 19 = .ok (.getfield 251, 3) := by decide +kernel
theorem dX5_off_22 : decode cX5_off 22 = .ok (.ifnull 5, 3) := by decide +kernel
theorem dX5_off_25 : decode cX5_off 25 = .ok (.iconst 0, 1) := by decide +kernel
theorem dX5_off_26 : decode cX5_off 26 = .ok (.ireturn, 1) := by decide +kernel
theorem dX5_off_27 : decode cX5_off 27 = .ok (.aload_n 2, 1) := by decide +kernel
theorem dX5_off_28 : decode cX5_off 28 = .ok (.getfield 122, 3) := by decide +kernel
theorem dX5_off_31 : decode cX5_off 31 = .ok (.astore_n 3, 1) := by decide +kernel
theorem dX5_off_32 : decode cX5_off 32 = .ok (.aload_n 3, 1) := by decide +kernel
end
section
theorem dX5_off_33 : decode cX5_off 33 = .ok (.getfield 80, 3) := by decide +kernel
theorem dX5_off_36 : decode cX5_off 36 = .ok (.iconst 1, 1) := by decide +kernel
theorem dX5_off_37 : decode cX5_off 37 = .ok (.if_icmp .ne 19, 3) := by decide +kernel
theorem dX5_off_40 : decode cX5_off 40 = .ok (.aload_n 3, 1) := by decide +kernel
theorem dX5_off_41 : decode cX5_off 41 = .ok (.getfield 155, 3) := by decide +kernel
theorem dX5_off_44 : decode cX5_off 44 = .ok (.aload_n 2, 1) := by decide +kernel
theorem dX5_off_45 : decode cX5_off 45 = .ok (.if_acmp .eq 11, 3) := by decide +kernel
theorem dX5_off_48 : decode cX5_off 48 = .ok (.aload_n 3, 1) := by decide +kernel
theorem dX5_off_49 : decode cX5_off 49 = .ok (.getfield 138, 3) := by decide +kernel
theorem dX5_off_52 : decode cX5_off 52 = .ok (.iconst (-1), 1) := by decide +kernel
theorem dX5_off_53 : decode cX5_off 53 = .ok (.if_icmp .eq 5, 3) := by decide +kernel
theorem dX5_off_56 : decode cX5_off 56 = .ok (.iconst 0, 1) := by decide +kernel
theorem dX5_off_57 : decode cX5_off 57 = .ok (.ireturn, 1) := by decide +kernel
theorem dX5_off_58 : decode cX5_off 58 = .ok (.aload_n 0, 1) := by decide +kernel
theorem dX5_off_59 : decode cX5_off 59 = .ok (.aload_n 2, 1) := by decide +kernel
theorem dX5_off_60 : decode cX5_off 60 = .ok (.invokevirtual 231, 3) := by decide +kernel
theorem dX5_off_63 : decode cX5_off 63 = .ok (.iconst 1, 1) := by decide +kernel
theorem dX5_off_64 : decode cX5_off 64 = .ok (.ireturn, 1) := by decide +kernel
set_option maxRecDepth 20000 in
theorem ggX5_shipOf_X5_shipNumbered : GoodIn wsX5_shipOf wsX5_shipNumbered := goodIn_r _ [5, 6, 7, 8, 9, 4, 10, 19, 20, 21, 22, 23, 24, 25, 26, 27, 28, 29, 30] (by decide +kernel) (by decide +kernel)
set_option maxRecDepth 20000 in
theorem gX5_shipOf_X5_shipNumbered : GoodIn wsX5_shipOf (wsV RX5 54 RX5 yX5_shipNumbered wsX5_shipNumbered) := goodIn_app (goodIn_of _ (by decide +kernel)) ggX5_shipOf_X5_shipNumbered
theorem dX5_shipOf_0 : decode cX5_shipOf 0 = .ok (.aload_n 0, 1) := by decide +kernel
theorem dX5_shipOf_1 : decode cX5_shipOf 1 = .ok (.iload_n 1, 1) := by decide +kernel
theorem dX5_shipOf_2 : decode cX5_shipOf 2 = .ok (.invokevirtual 54, 3) := by decide +kernel
theorem dX5_shipOf_5 : decode cX5_shipOf 5 = .ok (.astore_n 3, 1) := by decide +kernel
theorem dX5_shipOf_6 : decode cX5_shipOf 6 = .ok (.aload_n 3, 1) := by decide +kernel
theorem dX5_shipOf_7 : decode cX5_shipOf 7 = .ok (.ifnonnull 5, 3) := by decide +kernel
theorem dX5_shipOf_10 : decode cX5_shipOf 10 = .ok (.iconst (-1), 1) := by decide +kernel
theorem dX5_shipOf_11 : decode cX5_shipOf 11 = .ok (.ireturn, 1) := by decide +kernel
theorem dX5_shipOf_12 : decode cX5_shipOf 12 = .ok (.iload_n 2, 1) := by decide +kernel
theorem dX5_shipOf_13 : decode cX5_shipOf 13 = .ok (.tableswitch 77 0 5 #[39, 44, 49, 54, 67, 72], 39) := by decide +kernel
theorem dX5_shipOf_52 : decode cX5_shipOf 52 = .ok (.aload_n 3, 1) := by decide +kernel
theorem dX5_shipOf_53 : decode cX5_shipOf 53 = .ok (.getfield 254, 3) := by decide +kernel
theorem dX5_shipOf_56 : decode cX5_shipOf 56 = .ok (.ireturn, 1) := by decide +kernel
theorem dX5_shipOf_57 : decode cX5_shipOf 57 = .ok (.aload_n 3, 1) := by decide +kernel
theorem dX5_shipOf_58 : decode cX5_shipOf 58 = .ok (.getfield 257, 3) := by decide +kernel
theorem dX5_shipOf_61 : decode cX5_shipOf 61 = .ok (.ireturn, 1) := by decide +kernel
theorem dX5_shipOf_62 : decode cX5_shipOf 62 = .ok (.aload_n 3, 1) := by decide +kernel
theorem dX5_shipOf_63 : decode cX5_shipOf 63 = .ok (.getfield 103, 3) := by decide +kernel
theorem dX5_shipOf_66 : decode cX5_shipOf 66 = .ok (.ireturn, 1) := by decide +kernel
theorem dX5_shipOf_67 : decode cX5_shipOf 67 = .ok (.aload_n 3, 1) := by decide +kernel
theorem dX5_shipOf_68 : decode cX5_shipOf 68 = .ok (.getfield 260, 3) := by decide +kernel
theorem dX5_shipOf_71 : decode cX5_shipOf 71 = .ok (.ifCond .eq 7, 3) := by decide +kernel
theorem dX5_shipOf_74 : decode cX5_shipOf 74 = .ok (.iconst 1, 1) := by decide +kernel
theorem dX5_shipOf_75 : decode cX5_shipOf 75 = .ok (.goto 4, 3) := by decide +kernel
theorem dX5_shipOf_78 : decode cX5_shipOf 78 = .ok (.iconst 0, 1) := by decide +kernel
theorem dX5_shipOf_79 : decode cX5_shipOf 79 = .ok (.ireturn, 1) := by decide +kernel
theorem dX5_shipOf_80 : decode cX5_shipOf 80 = .ok (.aload_n 3, 1) := by decide +kernel
theorem dX5_shipOf_81 : decode cX5_shipOf 81 = .ok (.getfield 64, 3) := by decide +kernel
theorem dX5_shipOf_84 : decode cX5_shipOf 84 = .ok (.ireturn, 1) := by decide +kernel
theorem dX5_shipOf_85 : decode cX5_shipOf 85 = .ok (.aload_n 3, 1) := by decide +kernel
theorem dX5_shipOf_86 : decode cX5_shipOf 86 = .ok (.getfield 263, 3) := by decide +kernel
theorem dX5_shipOf_89 : decode cX5_shipOf 89 = .ok (.ireturn, 1) := by decide +kernel
theorem dX5_shipOf_90 : decode cX5_shipOf 90 = .ok (.iconst (-1), 1) := by decide +kernel
theorem dX5_shipOf_91 : decode cX5_shipOf 91 = .ok (.ireturn, 1) := by decide +kernel
set_option maxRecDepth 20000 in
theorem ggX5_sailingOf_X5_sailingNumbered : GoodIn wsX5_sailingOf wsX5_sailingNumbered := goodIn_r _ [5, 6, 7, 8, 9, 4, 10, 34, 35, 36, 37, 38, 39, 40, 41, 42, 43, 44, 45] (by decide +kernel) (by decide +kernel)
set_option maxRecDepth 20000 in
theorem gX5_sailingOf_X5_sailingNumbered : GoodIn wsX5_sailingOf (wsV RX5 92 RX5 yX5_sailingNumbered wsX5_sailingNumbered) := goodIn_app (goodIn_of _ (by decide +kernel)) ggX5_sailingOf_X5_sailingNumbered
set_option maxRecDepth 20000 in
theorem ggX5_sailingOf_X5_ticketsOf : GoodIn wsX5_sailingOf wsX5_ticketsOf := goodIn_r _ [14, 15, 16, 34, 35, 36, 37, 38, 39, 40, 41, 42, 43, 44, 45, 46, 47, 48, 49, 50, 51, 52, 53, 54, 55, 56, 57, 58, 59, 60, 61] (by decide +kernel) (by decide +kernel)
set_option maxRecDepth 20000 in
theorem gX5_sailingOf_X5_ticketsOf : GoodIn wsX5_sailingOf (wsV RX5 267 RX5 yX5_ticketsOf wsX5_ticketsOf) := goodIn_app (goodIn_of _ (by decide +kernel)) ggX5_sailingOf_X5_ticketsOf
theorem dX5_sailingOf_0 : decode cX5_sailingOf 0 = .ok (.aload_n 0, 1) := by decide +kernel
theorem dX5_sailingOf_1 : decode cX5_sailingOf 1 = .ok (.iload_n 1, 1) := by decide +kernel
theorem dX5_sailingOf_2 : decode cX5_sailingOf 2 = .ok (.invokevirtual 92, 3) := by decide +kernel
theorem dX5_sailingOf_5 : decode cX5_sailingOf 5 = .ok (.astore_n 3, 1) := by decide +kernel
theorem dX5_sailingOf_6 : decode cX5_sailingOf 6 = .ok (.aload_n 3, 1) := by decide +kernel
theorem dX5_sailingOf_7 : decode cX5_sailingOf 7 = .ok (.ifnonnull 5, 3) := by decide +kernel
theorem dX5_sailingOf_10 : decode cX5_sailingOf 10 = .ok (.iconst (-1), 1) := by decide +kernel
theorem dX5_sailingOf_11 : decode cX5_sailingOf 11 = .ok (.ireturn, 1) := by decide +kernel
theorem dX5_sailingOf_12 : decode cX5_sailingOf 12 = .ok (.iload_n 2, 1) := by decide +kernel
theorem dX5_sailingOf_13 : decode cX5_sailingOf 13 = .ok (.tableswitch 82 0 6 #[43, 51, 56, 61, 66, 71, 76], 43) := by decide +kernel
theorem dX5_sailingOf_56 : decode cX5_sailingOf 56 = .ok (.aload_n 3, 1) := by decide +kernel
theorem dX5_sailingOf_57 : decode cX5_sailingOf 57 = .ok (.getfield 76, 3) := by decide +kernel
theorem dX5_sailingOf_60 : decode cX5_sailingOf 60 = .ok (.getfield 266, 3) := by decide +kernel
theorem dX5_sailingOf_63 : decode cX5_sailingOf 63 = .ok (.ireturn, 1) := by decide +kernel
theorem dX5_sailingOf_64 : decode cX5_sailingOf 64 = .ok (.aload_n 3, 1) := by decide +kernel
theorem dX5_sailingOf_65 : decode cX5_sailingOf 65 = .ok (.getfield 83, 3) := by decide +kernel
theorem dX5_sailingOf_68 : decode cX5_sailingOf 68 = .ok (.ireturn, 1) := by decide +kernel
theorem dX5_sailingOf_69 : decode cX5_sailingOf 69 = .ok (.aload_n 3, 1) := by decide +kernel
theorem dX5_sailingOf_70 : decode cX5_sailingOf 70 = .ok (.getfield 106, 3) := by decide +kernel
theorem dX5_sailingOf_73 : decode cX5_sailingOf 73 = .ok (.ireturn, 1) := by decide +kernel
theorem dX5_sailingOf_74 : decode cX5_sailingOf 74 = .ok (.aload_n 3, 1) := by decide +kernel
theorem dX5_sailingOf_75 : decode cX5_sailingOf 75 = .ok (.getfield 80, 3) := by decide +kernel
theorem dX5_sailingOf_78 : decode cX5_sailingOf 78 = .ok (.ireturn, 1) := by decide +kernel
theorem dX5_sailingOf_79 : decode cX5_sailingOf 79 = .ok (.aload_n 3, 1) := by decide +kernel
theorem dX5_sailingOf_80 : decode cX5_sailingOf 80 = .ok (.getfield 166, 3) := by decide +kernel
theorem dX5_sailingOf_83 : decode cX5_sailingOf 83 = .ok (.ireturn, 1) := by decide +kernel
theorem dX5_sailingOf_84 : decode cX5_sailingOf 84 = .ok (.aload_n 3, 1) := by decide +kernel
theorem dX5_sailingOf_85 : decode cX5_sailingOf 85 = .ok (.getfield 138, 3) := by decide +kernel
theorem dX5_sailingOf_88 : decode cX5_sailingOf 88 = .ok (.ireturn, 1) := by decide +kernel
theorem dX5_sailingOf_89 : decode cX5_sailingOf 89 = .ok (.aload_n 0, 1) := by decide +kernel
theorem dX5_sailingOf_90 : decode cX5_sailingOf 90 = .ok (.aload_n 3, 1) := by decide +kernel
theorem dX5_sailingOf_91 : decode cX5_sailingOf 91 = .ok (.invokevirtual 267, 3) := by decide +kernel
theorem dX5_sailingOf_94 : decode cX5_sailingOf 94 = .ok (.ireturn, 1) := by decide +kernel
theorem dX5_sailingOf_95 : decode cX5_sailingOf 95 = .ok (.iconst (-1), 1) := by decide +kernel
theorem dX5_sailingOf_96 : decode cX5_sailingOf 96 = .ok (.ireturn, 1) := by decide +kernel
theorem dX5_ticketsOf_0 : decode cX5_ticketsOf 0 = .ok (.iconst 0, 1) := by decide +kernel
theorem dX5_ticketsOf_1 : decode cX5_ticketsOf 1 = .ok (.istore_n 2, 1) := by decide +kernel
theorem dX5_ticketsOf_2 : decode cX5_ticketsOf 2 = .ok (.iconst 0, 1) := by decide +kernel
theorem dX5_ticketsOf_3 : decode cX5_ticketsOf 3 = .ok (.istore_n 3, 1) := by decide +kernel
theorem dX5_ticketsOf_4 : decode cX5_ticketsOf 4 = .ok (.iload_n 3, 1) := by decide +kernel
theorem dX5_ticketsOf_5 : decode cX5_ticketsOf 5 = .ok (.aload_n 0, 1) := by decide +kernel
theorem dX5_ticketsOf_6 : decode cX5_ticketsOf 6 = .ok (.getfield 100, 3) := by decide +kernel
theorem dX5_ticketsOf_9 : decode cX5_ticketsOf 9 = .ok (.if_icmp .ge 25, 3) := by decide +kernel
theorem dX5_ticketsOf_12 : decode cX5_ticketsOf 12 = .ok (.aload_n 0, 1) := by decide +kernel
theorem dX5_ticketsOf_13 : decode cX5_ticketsOf 13 = .ok (.getfield 29, 3) := by decide +kernel
theorem dX5_ticketsOf_16 : decode cX5_ticketsOf 16 = .ok (.iload_n 3, 1) := by decide +kernel
theorem dX5_ticketsOf_17 : decode cX5_ticketsOf 17 = .ok (.aaload, 1) := by decide +kernel
theorem dX5_ticketsOf_18 : decode cX5_ticketsOf 18 = .ok (.getfield 122, 3) := by decide +kernel
theorem dX5_ticketsOf_21 : decode cX5_ticketsOf 21 = .ok (.aload_n 1, 1) := by decide +kernel
theorem dX5_ticketsOf_22 : decode cX5_ticketsOf 22 = .ok (.if_acmp .ne 6, 3) := by decide +kernel
theorem dX5_ticketsOf_25 : decode cX5_ticketsOf 25 = .ok (.iinc 2 1, 3) := by decide +kernel
theorem dX5_ticketsOf_28 : decode cX5_ticketsOf 28 = .ok (.iinc 3 1, 3) := by decide +kernel
theorem dX5_ticketsOf_31 : decode cX5_ticketsOf 31 = .ok (.goto (-27), 3) := by decide +kernel
theorem dX5_ticketsOf_34 : decode cX5_ticketsOf 34 = .ok (.iload_n 2, 1) := by decide +kernel
theorem dX5_ticketsOf_35 : decode cX5_ticketsOf 35 = .ok (.ireturn, 1) := by decide +kernel
set_option maxRecDepth 20000 in
theorem ggX5_ticketOf_X5_ticketNumbered : GoodIn wsX5_ticketOf wsX5_ticketNumbered := goodIn_r _ [5, 6, 7, 8, 9, 4, 10, 28, 29, 30, 31, 32, 33, 34, 35, 36, 37, 38, 39] (by decide +kernel) (by decide +kernel)
set_option maxRecDepth 20000 in
theorem gX5_ticketOf_X5_ticketNumbered : GoodIn wsX5_ticketOf (wsV RX5 116 RX5 yX5_ticketNumbered wsX5_ticketNumbered) := goodIn_app (goodIn_of _ (by decide +kernel)) ggX5_ticketOf_X5_ticketNumbered
set_option maxRecDepth 20000 in
theorem ggX5_ticketOf_X4_tell : GoodIn wsX5_ticketOf wsX4_tell := goodIn_r _ [14, 15, 16, 17, 18, 19, 20, 21, 22, 23, 24, 25, 26, 27, 40, 41, 42, 43, 44, 45, 46, 47, 48, 49, 50, 51, 52, 53, 54, 55, 56, 57, 58, 59, 60, 61, 62, 63, 64] (by decide +kernel) (by decide +kernel)
set_option maxRecDepth 20000 in
theorem gX5_ticketOf_X4_tell_n271 : GoodIn wsX5_ticketOf (wsX4_tell) := ggX5_ticketOf_X4_tell
theorem dX5_ticketOf_0 : decode cX5_ticketOf 0 = .ok (.aload_n 0, 1) := by decide +kernel
theorem dX5_ticketOf_1 : decode cX5_ticketOf 1 = .ok (.iload_n 1, 1) := by decide +kernel
theorem dX5_ticketOf_2 : decode cX5_ticketOf 2 = .ok (.invokevirtual 116, 3) := by decide +kernel
theorem dX5_ticketOf_5 : decode cX5_ticketOf 5 = .ok (.astore_n 3, 1) := by decide +kernel
theorem dX5_ticketOf_6 : decode cX5_ticketOf 6 = .ok (.aload_n 3, 1) := by decide +kernel
theorem dX5_ticketOf_7 : decode cX5_ticketOf 7 = .ok (.ifnonnull 7, 3) := by decide +kernel
theorem dX5_ticketOf_10 : decode cX5_ticketOf 10 = .ok (.iconst (-1), 1) := by decide +kernel
theorem dX5_ticketOf_11 : decode cX5_ticketOf 11 = .ok (.goto 8, 3) := by decide +kernel
theorem dX5_ticketOf_14 : decode cX5_ticketOf 14 = .ok (.aload_n 3, 1) := by decide +kernel
theorem dX5_ticketOf_15 : decode cX5_ticketOf 15 = .ok (.iload_n 2, 1) := by decide +kernel
theorem dX5_ticketOf_16 : decode cX5_ticketOf 16 = .ok (.invokevirtual 271, 3) := by decide +kernel
theorem dX5_ticketOf_19 : decode cX5_ticketOf 19 = .ok (.ireturn, 1) := by decide +kernel
set_option maxRecDepth 20000 in
theorem ggX5_at_X5_shipNumbered : GoodIn wsX5_at wsX5_shipNumbered := goodIn_r _ [5, 6, 7, 8, 9, 4, 10, 38, 39, 40, 41, 42, 43, 44, 45, 46, 47, 48, 49] (by decide +kernel) (by decide +kernel)
set_option maxRecDepth 20000 in
theorem gX5_at_X5_shipNumbered : GoodIn wsX5_at (wsV RX5 54 RX5 yX5_shipNumbered wsX5_shipNumbered) := goodIn_app (goodIn_of _ (by decide +kernel)) ggX5_at_X5_shipNumbered
set_option maxRecDepth 20000 in
theorem ggX5_at_X3_nearestBow : GoodIn wsX5_at wsX3_nearestBow := goodIn_r _ [14, 15, 16, 17, 18, 19, 12, 20, 21, 50, 51, 52, 53, 54, 55, 56, 57] (by decide +kernel) (by decide +kernel)
set_option maxRecDepth 20000 in
theorem gX5_at_X3_nearestBow_n274 : GoodIn wsX5_at (wsX3_nearestBow) := ggX5_at_X3_nearestBow
set_option maxRecDepth 20000 in
theorem ggX5_at_X5_within : GoodIn wsX5_at wsX5_within := goodIn_r _ [10] (by decide +kernel) (by decide +kernel)
set_option maxRecDepth 20000 in
theorem gX5_at_X5_within : GoodIn wsX5_at (va_wsS RX5 47 yX5_within wsX5_within) := goodIn_app (goodIn_of _ (by decide +kernel)) ggX5_at_X5_within
theorem dX5_at_0 : decode cX5_at 0 = .ok (.aload_n 0, 1) := by decide +kernel
theorem dX5_at_1 : decode cX5_at 1 = .ok (.iload_n 1, 1) := by decide +kernel
theorem dX5_at_2 : decode cX5_at 2 = .ok (.invokevirtual 54, 3) := by decide +kernel
theorem dX5_at_5 : decode cX5_at 5 = .ok (.astore 5, 2) := by decide +kernel
theorem dX5_at_7 : decode cX5_at 7 = .ok (.aload 5, 2) := by decide +kernel
theorem dX5_at_9 : decode cX5_at 9 = .ok (.ifnonnull 5, 3) := by decide +kernel
theorem dX5_at_12 : decode cX5_at 12 = .ok (.iconst (-1), 1) := by decide +kernel
theorem dX5_at_13 : decode cX5_at 13 = .ok (.ireturn, 1) := by decide +kernel
theorem dX5_at_14 : decode cX5_at 14 = .ok (.aload 5, 2) := by decide +kernel
theorem dX5_at_16 : decode cX5_at 16 = .ok (.iload_n 2, 1) := by decide +kernel
theorem dX5_at_17 : decode cX5_at 17 = .ok (.iload_n 3, 1) := by decide +kernel
theorem dX5_at_18 : decode cX5_at 18 = .ok (.invokevirtual 274, 3) := by decide +kernel
theorem dX5_at_21 : decode cX5_at 21 = .ok (.astore 6, 2) := by decide +kernel
theorem dX5_at_23 : decode cX5_at 23 = .ok (.aload 6, 2) := by decide +kernel
theorem dX5_at_25 : decode cX5_at 25 = .ok (.ifnull 45, 3) := by decide +kernel
theorem dX5_at_28 : decode cX5_at 28 = .ok (.iload 4, 2) := by decide +kernel
theorem dX5_at_30 : decode cX5_at 30 = .ok (.aload 6, 2) := by decide +kernel
theorem dX5_at_32 : decode cX5_at 32 = .ok (.getfield 278, 3) := by decide +kernel
theorem dX5_at_35 : decode cX5_at 35 = .ok (.aload 6, 2) := by decide +kernel
theorem dX5_at_37 : decode cX5_at 37 = .ok (.getfield 278, 3) := by decide +kernel
theorem dX5_at_40 : decode cX5_at 40 = .ok (.aload 6, 2) := by decide +kernel
theorem dX5_at_42 : decode cX5_at 42 = .ok (.getfield 234, 3) := by decide +kernel
theorem dX5_at_45 : decode cX5_at 45 = .ok (.iadd, 1) := by decide +kernel
theorem dX5_at_46 : decode cX5_at 46 = .ok (.iconst 1, 1) := by decide +kernel
theorem dX5_at_47 : decode cX5_at 47 = .ok (.isub, 1) := by decide +kernel
theorem dX5_at_48 : decode cX5_at 48 = .ok (.invokestatic 47, 3) := by decide +kernel
theorem dX5_at_51 : decode cX5_at 51 = .ok (.ifCond .eq 9, 3) := by decide +kernel
theorem dX5_at_54 : decode cX5_at 54 = .ok (.aload 6, 2) := by decide +kernel
theorem dX5_at_56 : decode cX5_at 56 = .ok (.getfield 162, 3) := by decide +kernel
theorem dX5_at_59 : decode cX5_at 59 = .ok (.ireturn, 1) := by decide +kernel
theorem dX5_at_60 : decode cX5_at 60 = .ok (.aload 6, 2) := by decide +kernel
theorem dX5_at_62 : decode cX5_at 62 = .ok (.getfield 251, 3) := by decide +kernel
theorem dX5_at_65 : decode cX5_at 65 = .ok (.astore 6, 2) := by decide +kernel
theorem dX5_at_67 : decode cX5_at 67 = .ok (.goto (-44), 3) := by decide +kernel
theorem dX5_at_70 : decode cX5_at 70 = .ok (.iconst (-1), 1) := by decide +kernel
theorem dX5_at_71 : decode cX5_at 71 = .ok (.ireturn, 1) := by decide +kernel
set_option maxRecDepth 20000 in
theorem ggX5_lane_X5_shipNumbered : GoodIn wsX5_lane wsX5_shipNumbered := goodIn_r _ [5, 6, 7, 8, 9, 4, 10, 46, 47, 48, 49, 50, 51, 52, 53, 54, 55, 56, 57] (by decide +kernel) (by decide +kernel)
set_option maxRecDepth 20000 in
theorem gX5_lane_X5_shipNumbered : GoodIn wsX5_lane (wsV RX5 54 RX5 yX5_shipNumbered wsX5_shipNumbered) := goodIn_app (goodIn_of _ (by decide +kernel)) ggX5_lane_X5_shipNumbered
set_option maxRecDepth 20000 in
theorem ggX5_lane_X3_hasLane : GoodIn wsX5_lane wsX3_hasLane := goodIn_r _ [14, 15, 16, 58, 59, 60, 61, 62, 63, 64, 65] (by decide +kernel) (by decide +kernel)
set_option maxRecDepth 20000 in
theorem gX5_lane_X3_hasLane_n281 : GoodIn wsX5_lane (wsX3_hasLane) := ggX5_lane_X3_hasLane
set_option maxRecDepth 20000 in
theorem ggX5_lane_X3_freePlaces : GoodIn wsX5_lane wsX3_freePlaces := goodIn_r _ [19, 20, 21, 22, 23, 12, 24, 25, 16, 26, 11, 13, 14, 15, 58, 59, 60, 61, 62, 63, 64, 65, 66, 67, 68, 69, 70, 71, 72, 73, 74, 75, 76, 77, 78, 79, 80, 81] (by decide +kernel) (by decide +kernel)
set_option maxRecDepth 20000 in
theorem gX5_lane_X3_freePlaces_n285 : GoodIn wsX5_lane (wsX3_freePlaces) := ggX5_lane_X3_freePlaces
set_option maxRecDepth 20000 in
theorem ggX5_lane_X3_longestGap : GoodIn wsX5_lane wsX3_longestGap := goodIn_r _ [29, 30, 31, 32, 33, 20, 21, 22, 23, 12, 24, 25, 16, 26, 11, 13, 14, 15, 66, 67, 68, 69, 70, 71, 72, 73, 74, 75, 76, 77, 78, 79, 80, 81, 58, 59, 60, 61, 62, 63, 64, 65] (by decide +kernel) (by decide +kernel)
set_option maxRecDepth 20000 in
theorem gX5_lane_X3_longestGap_n289 : GoodIn wsX5_lane (wsX3_longestGap) := ggX5_lane_X3_longestGap
set_option maxRecDepth 20000 in
theorem ggX5_lane_X3_mayStand : GoodIn wsX5_lane wsX3_mayStand := goodIn_r _ [36, 37, 38, 39, 40, 12, 41, 21, 22, 23, 24, 25, 16, 26, 11, 13, 14, 15, 42, 43, 44, 45, 58, 59, 60, 61, 62, 63, 64, 65, 66, 67, 68, 69, 70, 71, 72, 73, 74, 75, 76, 77, 78, 79, 80, 81] (by decide +kernel) (by decide +kernel)
set_option maxRecDepth 20000 in
theorem gX5_lane_X3_mayStand_n292 : GoodIn wsX5_lane (wsX3_mayStand) := ggX5_lane_X3_mayStand
theorem dX5_lane_0 : decode cX5_lane 0 = .ok (.aload_n 0, 1) := by decide +kernel
theorem dX5_lane_1 : decode cX5_lane 1 = .ok (.iload_n 1, 1) := by decide +kernel
theorem dX5_lane_2 : decode cX5_lane 2 = .ok (.invokevirtual 54, 3) := by decide +kernel
theorem dX5_lane_5 : decode cX5_lane 5 = .ok (.astore 5, 2) := by decide +kernel
theorem dX5_lane_7 : decode cX5_lane 7 = .ok (.aload 5, 2) := by decide +kernel
theorem dX5_lane_9 : decode cX5_lane 9 = .ok (.ifnull 13, 3) := by decide +kernel
theorem dX5_lane_12 : decode cX5_lane 12 = .ok (.aload 5, 2) := by decide +kernel
theorem dX5_lane_14 : decode cX5_lane 14 = .ok (.iload_n 2, 1) := by decide +kernel
theorem dX5_lane_15 : decode cX5_lane 15 = .ok (.iload_n 3, 1) := by decide +kernel
theorem dX5_lane_16 : decode cX5_lane 16 = .ok (.invokevirtual 281, 3) := by decide +kernel
theorem dX5_lane_19 : decode cX5_lane 19 = .ok (.ifCond .ne 5, 3) := by decide +kernel
theorem dX5_lane_22 : decode cX5_lane 22 = .ok (.iconst (-1), 1) := by decide +kernel
theorem dX5_lane_23 : decode cX5_lane 23 = .ok (.ireturn, 1) := by decide +kernel
theorem dX5_lane_24 : decode cX5_lane 24 = .ok (.iload 4, 2) := by decide +kernel
theorem dX5_lane_26 : decode cX5_lane 26 = .ok (.tableswitch 70 0 4 #[34, 42, 50, 50, 50], 34) := by decide +kernel
theorem dX5_lane_60 : decode cX5_lane 60 = .ok (.aload 5, 2) := by decide +kernel
theorem dX5_lane_62 : decode cX5_lane 62 = .ok (.iload_n 2, 1) := by decide +kernel
theorem dX5_lane_63 : decode cX5_lane 63 = .ok (.iload_n 3, 1) := by decide +kernel
theorem dX5_lane_64 : decode cX5_lane 64 = .ok (.invokevirtual 285, 3) := by decide +kernel
theorem dX5_lane_67 : decode cX5_lane 67 = .ok (.ireturn, 1) := by decide +kernel
theorem dX5_lane_68 : decode cX5_lane 68 = .ok (.aload 5, 2) := by decide +kernel
theorem dX5_lane_70 : decode cX5_lane 70 = .ok (.iload_n 2, 1) := by decide +kernel
theorem dX5_lane_71 : decode cX5_lane 71 = .ok (.iload_n 3, 1) := by decide +kernel
theorem dX5_lane_72 : decode cX5_lane 72 = .ok (.invokevirtual 289, 3) := by decide +kernel
theorem dX5_lane_75 : decode cX5_lane 75 = .ok (.ireturn, 1) := by decide +kernel
theorem dX5_lane_76 : decode cX5_lane 76 = .ok (.aload 5, 2) := by decide +kernel
theorem dX5_lane_78 : decode cX5_lane 78 = .ok (.iload_n 2, 1) := by decide +kernel
theorem dX5_lane_79 : decode cX5_lane 79 = .ok (.iload_n 3, 1) := by decide +kernel
theorem dX5_lane_80 : decode cX5_lane 80 = .ok (.iload 4, 2) := by decide +kernel
theorem dX5_lane_82 : decode cX5_lane 82 = .ok (.iconst 2, 1) := by decide +kernel
theorem dX5_lane_83 : decode cX5_lane 83 = .ok (.isub, 1) := by decide +kernel
theorem dX5_lane_84 : decode cX5_lane 84 = .ok (.invokevirtual 292, 3) := by decide +kernel
theorem dX5_lane_87 : decode cX5_lane 87 = .ok (.ifCond .eq 7, 3) := by decide +kernel
theorem dX5_lane_90 : decode cX5_lane 90 = .ok (.iconst 1, 1) := by decide +kernel
theorem dX5_lane_91 : decode cX5_lane 91 = .ok (.goto 4, 3) := by decide +kernel
theorem dX5_lane_94 : decode cX5_lane 94 = .ok (.iconst 0, 1) := by decide +kernel
theorem dX5_lane_95 : decode cX5_lane 95 = .ok (.ireturn, 1) := by decide +kernel
theorem dX5_lane_96 : decode cX5_lane 96 = .ok (.iconst (-1), 1) := by decide +kernel
theorem dX5_lane_97 : decode cX5_lane 97 = .ok (.ireturn, 1) := by decide +kernel
set_option maxRecDepth 20000 in
theorem ggX5_log_X5_within : GoodIn wsX5_log wsX5_within := goodIn_r _ [12] (by decide +kernel) (by decide +kernel)
set_option maxRecDepth 20000 in
theorem gX5_log_X5_within : GoodIn wsX5_log (va_wsS RX5 47 yX5_within wsX5_within) := goodIn_app (goodIn_of _ (by decide +kernel)) ggX5_log_X5_within
theorem dX5_log_0 : decode cX5_log 0 = .ok (.iload_n 1, 1) := by decide +kernel
theorem dX5_log_1 : decode cX5_log 1 = .ok (.iconst 0, 1) := by decide +kernel
theorem dX5_log_2 : decode cX5_log 2 = .ok (.aload_n 0, 1) := by decide +kernel
theorem dX5_log_3 : decode cX5_log 3 = .ok (.getfield 159, 3) := by decide +kernel
theorem dX5_log_6 : decode cX5_log 6 = .ok (.sipush 3000, 3) := by decide +kernel
theorem dX5_log_9 : decode cX5_log 9 = .ok (.invokestatic 295, 3) := by decide +kernel
theorem dX5_log_12 : decode cX5_log 12 = .ok (.iconst 1, 1) := by decide +kernel
theorem dX5_log_13 : decode cX5_log 13 = .ok (.isub, 1) := by decide +kernel
theorem dX5_log_14 : decode cX5_log 14 = .ok (.invokestatic 47, 3) := by decide +kernel
theorem dX5_log_17 : decode cX5_log 17 = .ok (.ifCond .ne 5, 3) := by decide +kernel
theorem dX5_log_20 : decode cX5_log 20 = .ok (.iconst (-1), 1) := by decide +kernel
theorem dX5_log_21 : decode cX5_log 21 = .ok (.ireturn, 1) := by decide +kernel
theorem dX5_log_22 : decode cX5_log 22 = .ok (.iload_n 2, 1) := by decide +kernel
theorem dX5_log_23 : decode cX5_log 23 = .ok (.tableswitch 46 0 2 #[25, 32, 39], 25) := by decide +kernel
theorem dX5_log_48 : decode cX5_log 48 = .ok (.aload_n 0, 1) := by decide +kernel
theorem dX5_log_49 : decode cX5_log 49 = .ok (.getfield 33, 3) := by decide +kernel
theorem dX5_log_52 : decode cX5_log 52 = .ok (.iload_n 1, 1) := by decide +kernel
theorem dX5_log_53 : decode cX5_log 53 = .ok (.iaload, 1) := by decide +kernel
theorem dX5_log_54 : decode cX5_log 54 = .ok (.ireturn, 1) := by decide +kernel
theorem dX5_log_55 : decode cX5_log 55 = .ok (.aload_n 0, 1) := by decide +kernel
theorem dX5_log_56 : decode cX5_log 56 = .ok (.getfield 37, 3) := by decide +kernel
theorem dX5_log_59 : decode cX5_log 59 = .ok (.iload_n 1, 1) := by decide +kernel
theorem dX5_log_60 : decode cX5_log 60 = .ok (.iaload, 1) := by decide +kernel
theorem dX5_log_61 : decode cX5_log 61 = .ok (.ireturn, 1) := by decide +kernel
theorem dX5_log_62 : decode cX5_log 62 = .ok (.aload_n 0, 1) := by decide +kernel
theorem dX5_log_63 : decode cX5_log 63 = .ok (.getfield 40, 3) := by decide +kernel
theorem dX5_log_66 : decode cX5_log 66 = .ok (.iload_n 1, 1) := by decide +kernel
theorem dX5_log_67 : decode cX5_log 67 = .ok (.iaload, 1) := by decide +kernel
theorem dX5_log_68 : decode cX5_log 68 = .ok (.ireturn, 1) := by decide +kernel
theorem dX5_log_69 : decode cX5_log 69 = .ok (.iconst (-1), 1) := by decide +kernel
theorem dX5_log_70 : decode cX5_log 70 = .ok (.ireturn, 1) := by decide +kernel
theorem dX5_count_0 : decode cX5_count 0 = .ok (.iload_n 1, 1) := by decide +kernel
theorem dX5_count_1 : decode cX5_count 1 = .ok (.tableswitch 60 0 4 #[35, 40, 45, 50, 55], 35) := by decide +kernel
theorem dX5_count_36 : decode cX5_count 36 = .ok (.aload_n 0, 1) := by decide +kernel
theorem dX5_count_37 : decode cX5_count 37 = .ok (.getfield 43, 3) := by decide +kernel
theorem dX5_count_40 : decode cX5_count 40 = .ok (.ireturn, 1) := by decide +kernel
theorem dX5_count_41 : decode cX5_count 41 = .ok (.aload_n 0, 1) := by decide +kernel
theorem dX5_count_42 : decode cX5_count 42 = .ok (.getfield 58, 3) := by decide +kernel
theorem dX5_count_45 : decode cX5_count 45 = .ok (.ireturn, 1) := by decide +kernel
theorem dX5_count_46 : decode cX5_count 46 = .ok (.aload_n 0, 1) := by decide +kernel
theorem dX5_count_47 : decode cX5_count 47 = .ok (.getfield 65, 3) := by decide +kernel
theorem dX5_count_50 : decode cX5_count 50 = .ok (.ireturn, 1) := by decide +kernel
theorem dX5_count_51 : decode cX5_count 51 = .ok (.aload_n 0, 1) := by decide +kernel
theorem dX5_count_52 : decode cX5_count 52 = .ok (.getfield 100, 3) := by decide +kernel
theorem dX5_count_55 : decode cX5_count 55 = .ok (.ireturn, 1) := by decide +kernel
theorem dX5_count_56 : decode cX5_count 56 = .ok (.aload_n 0, 1) := by decide +kernel
theorem dX5_count_57 : decode cX5_count 57 = .ok (.getfield 159, 3) := by decide +kernel
theorem dX5_count_60 : decode cX5_count 60 = .ok (.ireturn, 1) := by decide +kernel
theorem dX5_count_61 : decode cX5_count 61 = .ok (.iconst (-1), 1) := by decide +kernel
theorem dX5_count_62 : decode cX5_count 62 = .ok (.ireturn, 1) := by decide +kernel
set_option maxRecDepth 20000 in
theorem ggX5_total_X5_sailingNumbered : GoodIn wsX5_total wsX5_sailingNumbered := goodIn_r _ [7, 8, 9, 10, 11, 6, 12, 16, 17, 18, 19, 20, 21, 22, 23, 24, 25, 26, 27] (by decide +kernel) (by decide +kernel)
set_option maxRecDepth 20000 in
theorem gX5_total_X5_sailingNumbered : GoodIn wsX5_total (wsV RX5 92 RX5 yX5_sailingNumbered wsX5_sailingNumbered) := goodIn_app (goodIn_of _ (by decide +kernel)) ggX5_total_X5_sailingNumbered
set_option maxRecDepth 20000 in
theorem ggX5_total_X5_within : GoodIn wsX5_total wsX5_within := goodIn_r _ [12] (by decide +kernel) (by decide +kernel)
set_option maxRecDepth 20000 in
theorem gX5_total_X5_within : GoodIn wsX5_total (va_wsS RX5 47 yX5_within wsX5_within) := goodIn_app (goodIn_of _ (by decide +kernel)) ggX5_total_X5_within
set_option maxRecDepth 20000 in
theorem ggX5_total_X5_shareOfTotal : GoodIn wsX5_total wsX5_shareOfTotal := goodIn_r _ [15, 28, 29, 30, 31, 32, 33, 34, 35, 36, 37, 38, 39, 40, 41, 42, 43] (by decide +kernel) (by decide +kernel)
set_option maxRecDepth 20000 in
theorem gX5_total_X5_shareOfTotal : GoodIn wsX5_total (va_wsS RX5 298 yX5_shareOfTotal wsX5_shareOfTotal) := goodIn_app (goodIn_of _ (by decide +kernel)) ggX5_total_X5_shareOfTotal
theorem dX5_total_0 : decode cX5_total 0 = .ok (.aload_n 0, 1) := by decide +kernel
theorem dX5_total_1 : decode cX5_total 1 = .ok (.iload_n 1, 1) := by decide +kernel
theorem dX5_total_2 : decode cX5_total 2 = .ok (.invokevirtual 92, 3) := by decide +kernel
theorem dX5_total_5 : decode cX5_total 5 = .ok (.astore_n 3, 1) := by decide +kernel
theorem dX5_total_6 : decode cX5_total 6 = .ok (.aload_n 3, 1) := by decide +kernel
theorem dX5_total_7 : decode cX5_total 7 = .ok (.ifnull 12, 3) := by decide +kernel
theorem dX5_total_10 : decode cX5_total 10 = .ok (.iload_n 2, 1) := by decide +kernel
theorem dX5_total_11 : decode cX5_total 11 = .ok (.iconst 0, 1) := by decide +kernel
theorem dX5_total_12 : decode cX5_total 12 = .ok (.iconst 3, 1) := by decide +kernel
theorem dX5_total_13 : decode cX5_total 13 = .ok (.invokestatic 47, 3) := by decide +kernel
theorem dX5_total_16 : decode cX5_total 16 = .ok (.ifCond .ne 5, 3) := by decide +kernel
theorem dX5_total_19 : decode cX5_total 19 = .ok (.iconst (-1), 1) := by decide +kernel
theorem dX5_total_20 : decode cX5_total 20 = .ok (.ireturn, 1) := by decide +kernel
theorem dX5_total_21 : decode cX5_total 21 = .ok (.iconst 0, 1) := by decide +kernel
theorem dX5_total_22 : decode cX5_total 22 = .ok (.istore 4, 2) := by decide +kernel
theorem dX5_total_24 : decode cX5_total 24 = .ok (.iconst 0, 1) := by decide +kernel
theorem dX5_total_25 : decode cX5_total 25 = .ok (.istore 5, 2) := by decide +kernel
theorem dX5_total_27 : decode cX5_total 27 = .ok (.iload 5, 2) := by decide +kernel
theorem dX5_total_29 : decode cX5_total 29 = .ok (.aload_n 0, 1) := by decide +kernel
theorem dX5_total_30 : decode cX5_total 30 = .ok (.getfield 100, 3) := by decide +kernel
theorem dX5_total_33 : decode cX5_total 33 = .ok (.if_icmp .ge 57, 3) := by decide +kernel
theorem dX5_total_36 : decode cX5_total 36 = .ok (.aload_n 0, 1) := by decide +kernel
theorem dX5_total_37 : decode cX5_total 37 = .ok (.getfield 29, 3) := by decide +kernel
theorem dX5_total_40 : decode cX5_total 40 = .ok (.iload 5, 2) := by decide +kernel
theorem dX5_total_42 : decode cX5_total 42 = .ok (.aaload, 1) := by decide +kernel
theorem dX5_total_43 : decode cX5_total 43 = .ok (.astore 6, 2) := by decide +kernel
theorem dX5_total_45 : decode cX5_total 45 = .ok (.aload 6, 2) := by decide +kernel
theorem dX5_total_47 : decode cX5_total 47 = .ok (.getfield 122, 3) := by decide +kernel
theorem dX5_total_50 : decode cX5_total 50 = .ok (.aload_n 3, 1) := by decide +kernel
theorem dX5_total_51 : decode cX5_total 51 = .ok (.if_acmp .ne 33, 3) := by decide +kernel
theorem dX5_total_54 : decode cX5_total 54 = .ok (.aload 6, 2) := by decide +kernel
theorem dX5_total_56 : decode cX5_total 56 = .ok (.getfield 120, 3) := by decide +kernel
theorem dX5_total_59 : decode cX5_total 59 = .ok (.iconst 3, 1) := by decide +kernel
theorem dX5_total_60 : decode cX5_total 60 = .ok (.if_icmp .eq 13, 3) := by decide +kernel
theorem dX5_total_63 : decode cX5_total 63 = .ok (.aload 6, 2) := by decide +kernel
theorem dX5_total_65 : decode cX5_total 65 = .ok (.getfield 120, 3) := by decide +kernel
theorem dX5_total_68 : decode cX5_total 68 = .ok (.bipush 6, 2) := by decide +kernel
theorem dX5_total_70 : decode cX5_total 70 = .ok (.if_icmp .ne 14, 3) := by decide +kernel
theorem dX5_total_73 : decode cX5_total 73 = .ok (.iload 4, 2) := by decide +kernel
theorem dX5_total_75 : decode cX5_total 75 = .ok (.aload 6, 2) := by decide +kernel
theorem dX5_total_77 : decode cX5_total 77 = .ok (.iload_n 2, 1) := by decide +kernel
theorem dX5_total_78 : decode cX5_total 78 = .ok (.invokestatic 298, 3) := by decide +kernel
theorem dX5_total_81 : decode cX5_total 81 = .ok (.iadd, 1) := by decide +kernel
theorem dX5_total_82 : decode cX5_total 82 = .ok (.istore 4, 2) := by decide +kernel
theorem dX5_total_84 : decode cX5_total 84 = .ok (.iinc 5 1, 3) := by decide +kernel
theorem dX5_total_87 : decode cX5_total 87 = .ok (.goto (-60), 3) := by decide +kernel
theorem dX5_total_90 : decode cX5_total 90 = .ok (.iload 4, 2) := by decide +kernel
theorem dX5_total_92 : decode cX5_total 92 = .ok (.ireturn, 1) := by decide +kernel
theorem dX5_shareOfTotal_0 : decode cX5_shareOfTotal 0 = .ok (.iload_n 1, 1) := by decide +kernel
theorem dX5_shareOfTotal_1 : decode cX5_shareOfTotal 1 = .ok (.tableswitch 51 0 2 #[27, 29, 34], 27) := by decide +kernel
theorem dX5_shareOfTotal_28 : decode cX5_shareOfTotal 28 = .ok (.iconst 1, 1) := by decide +kernel
theorem dX5_shareOfTotal_29 : decode cX5_shareOfTotal 29 = .ok (.ireturn, 1) := by decide +kernel
theorem dX5_shareOfTotal_30 : decode cX5_shareOfTotal 30 = .ok (.aload_n 0, 1) := by decide +kernel
theorem dX5_shareOfTotal_31 : decode cX5_shareOfTotal 31 = .ok (.getfield 234, 3) := by decide +kernel
theorem dX5_shareOfTotal_34 : decode cX5_shareOfTotal 34 = .ok (.ireturn, 1) := by decide +kernel
theorem dX5_shareOfTotal_35 : decode cX5_shareOfTotal 35 = .ok (.aload_n 0, 1) := by decide +kernel
theorem dX5_shareOfTotal_36 : decode cX5_shareOfTotal 36 = .ok (.getfield 208, 3) := by decide +kernel
theorem dX5_shareOfTotal_39 : decode cX5_shareOfTotal 39 = .ok (.iconst (-1), 1) := by decide +kernel
theorem dX5_shareOfTotal_40 : decode cX5_shareOfTotal 40 = .ok (.if_icmp .ne 7, 3) := by decide +kernel
theorem dX5_shareOfTotal_43 : decode cX5_shareOfTotal 43 = .ok (.iconst 0, 1) := by decide +kernel
theorem dX5_shareOfTotal_44 : decode cX5_shareOfTotal 44 = .ok (.goto 7, 3) := by decide +kernel
theorem dX5_shareOfTotal_47 : decode cX5_shareOfTotal 47 = .ok (.aload_n 0, 1) := by decide +kernel
theorem dX5_shareOfTotal_48 : decode cX5_shareOfTotal 48 = .ok (.getfield 197, 3) := by decide +kernel
theorem dX5_shareOfTotal_51 : decode cX5_shareOfTotal 51 = .ok (.ireturn, 1) := by decide +kernel
theorem dX5_shareOfTotal_52 : decode cX5_shareOfTotal 52 = .ok (.aload_n 0, 1) := by decide +kernel
theorem dX5_shareOfTotal_53 : decode cX5_shareOfTotal 53 = .ok (.getfield 239, 3) := by decide +kernel
theorem dX5_shareOfTotal_56 : decode cX5_shareOfTotal 56 = .ok (.ireturn, 1) := by decide +kernel
theorem dX5_kept_0 : decode cX5_kept 0 = .ok (.lconst 0, 1) := by decide +kernel
theorem dX5_kept_1 : decode cX5_kept 1 = .ok (.lstore_n 1, 1) := by decide +kernel
theorem dX5_kept_2 : decode cX5_kept 2 = .ok (.iconst 0, 1) := by decide +kernel
theorem dX5_kept_3 : decode cX5_kept 3 = .ok (.istore_n 3, 1) := by decide +kernel
theorem dX5_kept_4 : decode cX5_kept 4 = .ok (.iload_n 3, 1) := by decide +kernel
theorem dX5_kept_5 : decode cX5_kept 5 = .ok (.aload_n 0, 1) := by decide +kernel
theorem dX5_kept_6 : decode cX5_kept 6 = .ok (.getfield 100, 3) := by decide +kernel
theorem dX5_kept_9 : decode cX5_kept 9 = .ok (.if_icmp .ge 32, 3) := by decide +kernel
theorem dX5_kept_12 : decode cX5_kept 12 = .ok (.lload_n 1, 1) := by decide +kernel
theorem dX5_kept_13 : decode cX5_kept 13 = .ok (.aload_n 0, 1) := by decide +kernel
theorem dX5_kept_14 : decode cX5_kept 14 = .ok (.getfield 29, 3) := by decide +kernel
theorem dX5_kept_17 : decode cX5_kept 17 = .ok (.iload_n 3, 1) := by decide +kernel
theorem dX5_kept_18 : decode cX5_kept 18 = .ok (.aaload, 1) := by decide +kernel
theorem dX5_kept_19 : decode cX5_kept 19 = .ok (.getfield 239, 3) := by decide +kernel
theorem dX5_kept_22 : decode cX5_kept 22 = .ok (.aload_n 0, 1) := by decide +kernel
theorem dX5_kept_23 : decode cX5_kept 23 = .ok (.getfield 29, 3) := by decide +kernel
theorem dX5_kept_26 : decode cX5_kept 26 = .ok (.iload_n 3, 1) := by decide +kernel
theorem dX5_kept_27 : decode cX5_kept 27 = .ok (.aaload, 1) := by decide +kernel
theorem dX5_kept_28 : decode cX5_kept 28 = .ok (.getfield 242, 3) := by decide +kernel
theorem dX5_kept_31 : decode cX5_kept 31 = .ok (.isub, 1) := by decide +kernel
theorem dX5_kept_32 : decode cX5_kept 32 = .ok (.i2l, 1) := by decide +kernel
theorem dX5_kept_33 : decode cX5_kept 33 = .ok (.ladd, 1) := by decide +kernel
theorem dX5_kept_34 : decode cX5_kept 34 = .ok (.lstore_n 1, 1) := by decide +kernel
theorem dX5_kept_35 : decode cX5_kept 35 = .ok (.iinc 3 1, 3) := by decide +kernel
theorem dX5_kept_38 : decode cX5_kept 38 = .ok (.goto (-34), 3) := by decide +kernel
theorem dX5_kept_41 : decode cX5_kept 41 = .ok (.lload_n 1, 1) := by decide +kernel
theorem dX5_kept_42 : decode cX5_kept 42 = .ok (.lreturn, 1) := by decide +kernel
set_option maxRecDepth 20000 in
theorem ggX5_audit_X0_init : GoodIn wsX5_audit wsX0_init := goodIn_r _ [5, 6, 7, 8, 9, 10, 11, 76, 77, 78] (by decide +kernel) (by decide +kernel)
set_option maxRecDepth 20000 in
theorem gX5_audit_X0_init_n304 : GoodIn wsX5_audit (wsX0_init) := ggX5_audit_X0_init
set_option maxRecDepth 20000 in
theorem ggX5_audit_X5_firstWrong : GoodIn wsX5_audit wsX5_firstWrong := goodIn_r _ [16, 17, 18, 19, 20, 21, 15, 22, 23, 3, 24, 25, 9, 10, 11, 26, 27, 28, 29, 30, 31, 32, 33, 34, 35, 36, 37, 38, 39, 40, 41, 42, 43, 44, 45, 46, 47, 48, 49, 50, 51, 52, 53, 54, 55, 56, 57, 58, 59, 60, 61, 62, 63, 64, 65, 66, 67, 68, 69, 70, 71, 79, 80, 81, 82, 83, 84, 85, 86, 87, 88, 89, 90, 91, 92, 93, 94, 95, 96, 97, 98, 99, 100, 101, 102, 103, 104, 105, 106, 107, 108, 109, 110, 111, 112, 113, 114, 115, 116, 117, 118, 119, 120, 121, 122, 123, 76, 77, 78, 124, 125, 126] (by decide +kernel) (by decide +kernel)
set_option maxRecDepth 20000 in
theorem gX5_audit_X5_firstWrong : GoodIn wsX5_audit (wsV RX5 307 RX5 yX5_firstWrong wsX5_firstWrong) := goodIn_app (goodIn_of _ (by decide +kernel)) ggX5_audit_X5_firstWrong
set_option maxRecDepth 20000 in
theorem ggX5_audit_X5_ticketNumbered : GoodIn wsX5_audit wsX5_ticketNumbered := goodIn_r _ [75, 17, 18, 49, 50, 15, 51, 79, 80, 81, 82, 83, 84, 85, 86, 87, 88, 89, 90] (by decide +kernel) (by decide +kernel)
set_option maxRecDepth 20000 in
theorem gX5_audit_X5_ticketNumbered : GoodIn wsX5_audit (wsV RX5 116 RX5 yX5_ticketNumbered wsX5_ticketNumbered) := goodIn_app (goodIn_of _ (by decide +kernel)) ggX5_audit_X5_ticketNumbered
set_option maxRecDepth 20000 in
theorem ggX5_audit_X5_within : GoodIn wsX5_audit wsX5_within := goodIn_r _ [51] (by decide +kernel) (by decide +kernel)
set_option maxRecDepth 20000 in
theorem gX5_audit_X5_within : GoodIn wsX5_audit (va_wsS RX5 47 yX5_within wsX5_within) := goodIn_app (goodIn_of _ (by decide +kernel)) ggX5_audit_X5_within
theorem dX5_audit_0 : decode cX5_audit 0 = .ok (.iload_n 2, 1) := by decide +kernel
theorem dX5_audit_1 : decode cX5_audit 1 = .ok (.ifCond .ne 18, 3) := by decide +kernel
theorem dX5_audit_4 : decode cX5_audit 4 = .ok (.aload_n 0, 1) := by decide +kernel
theorem dX5_audit_5 : decode cX5_audit 5 = .ok (.new 302, 3) := by decide +kernel
theorem dX5_audit_8 : decode cX5_audit 8 = .ok (.dup, 1) := by decide +kernel
theorem dX5_audit_9 : decode cX5_audit 9 = .ok (.aconst_null, 1) := by decide +kernel
theorem dX5_audit_10 : decode cX5_audit 10 = .ok (.iload_n 2, 1) := by decide +kernel
theorem dX5_audit_11 : decode cX5_audit 11 = .ok (.iconst 0, 1) := by decide +kernel
theorem dX5_audit_12 : decode cX5_audit 12 = .ok (.invokespecial 304, 3) := by decide +kernel
theorem dX5_audit_15 : decode cX5_audit 15 = .ok (.invokevirtual 307, 3) := by decide +kernel
theorem dX5_audit_18 : decode cX5_audit 18 = .ok (.ireturn, 1) := by decide +kernel
theorem dX5_audit_19 : decode cX5_audit 19 = .ok (.aload_n 0, 1) := by decide +kernel
theorem dX5_audit_20 : decode cX5_audit 20 = .ok (.iload_n 1, 1) := by decide +kernel
theorem dX5_audit_21 : decode cX5_audit 21 = .ok (.invokevirtual 116, 3) := by decide +kernel
theorem dX5_audit_24 : decode cX5_audit 24 = .ok (.astore 4, 2) := by decide +kernel
theorem dX5_audit_26 : decode cX5_audit 26 = .ok (.aload 4, 2) := by decide +kernel
theorem dX5_audit_28 : decode cX5_audit 28 = .ok (.ifnull 13, 3) := by decide +kernel
theorem dX5_audit_31 : decode cX5_audit 31 = .ok (.iload_n 2, 1) := by decide +kernel
theorem dX5_audit_32 : decode cX5_audit 32 = .ok (.iconst 4, 1) := by decide +kernel
theorem dX5_audit_33 : decode cX5_audit 33 = .ok (.bipush 11, 2) := by decide +kernel
theorem dX5_audit_35 : decode cX5_audit 35 = .ok (.invokestatic 47, 3) := by decide +kernel
theorem dX5_audit_38 : decode cX5_audit 38 = .ok (.ifCond .ne 6, 3) := by decide +kernel
theorem dX5_audit_41 : decode cX5_audit 41 = .ok (.bipush (-2), 2) := by decide +kernel
theorem dX5_audit_43 : decode cX5_audit 43 = .ok (.ireturn, 1) := by decide +kernel
theorem dX5_audit_44 : decode cX5_audit 44 = .ok (.aload_n 0, 1) := by decide +kernel
theorem dX5_audit_45 : decode cX5_audit 45 = .ok (.new 302, 3) := by decide +kernel
theorem dX5_audit_48 : decode cX5_audit 48 = .ok (.dup, 1) := by decide +kernel
theorem dX5_audit_49 : decode cX5_audit 49 = .ok (.aload 4, 2) := by decide +kernel
theorem dX5_audit_51 : decode cX5_audit 51 = .ok (.iload_n 2, 1) := by decide +kernel
theorem dX5_audit_52 : decode cX5_audit 52 = .ok (.iload_n 3, 1) := by decide +kernel
theorem dX5_audit_53 : decode cX5_audit 53 = .ok (.invokespecial 304, 3) := by decide +kernel
theorem dX5_audit_56 : decode cX5_audit 56 = .ok (.invokevirtual 307, 3) := by decide +kernel
theorem dX5_audit_59 : decode cX5_audit 59 = .ok (.ireturn, 1) := by decide +kernel
set_option maxRecDepth 20000 in
theorem ggX5_firstWrong_X5_placeAgrees : GoodIn wsX5_firstWrong wsX5_placeAgrees := goodIn_r _ [7, 1, 2, 8, 9, 10, 11, 12, 13, 14, 15, 16, 17, 18, 19, 20, 21, 22, 23, 24, 25, 26, 27, 28, 29, 30, 31, 32, 33, 34, 35, 36, 37, 38, 39, 6, 40, 41, 42, 43, 73, 74, 75, 76, 77, 78, 79, 80, 81, 82, 83, 84, 85, 86, 87, 88, 89, 90, 91, 92, 93, 94, 95, 96, 97, 98, 99, 100, 101, 102, 103, 104, 105, 61, 62, 63, 64, 65, 66, 67, 68, 69, 70, 71, 72, 106, 107, 108] (by decide +kernel) (by decide +kernel)
set_option maxRecDepth 20000 in
theorem gX5_firstWrong_X5_placeAgrees : GoodIn wsX5_firstWrong (wsV RX5 311 RX5 yX5_placeAgrees wsX5_placeAgrees) := goodIn_app (goodIn_of _ (by decide +kernel)) ggX5_firstWrong_X5_placeAgrees
set_option maxRecDepth 20000 in
theorem ggX5_firstWrong_X5_cabinAgrees : GoodIn wsX5_firstWrong wsX5_cabinAgrees := goodIn_r _ [47, 48, 49, 1, 2, 8, 9, 10, 11, 12, 13, 14, 15, 16, 17, 18, 19, 20, 21, 22, 23, 24, 25, 26, 27, 28, 29, 30, 31, 50, 51, 52, 53, 38, 39, 6, 40, 73, 74, 75, 76, 77, 78, 79, 80, 81, 82, 83, 84, 85, 86, 87, 88, 61, 62, 63, 64, 65, 66, 67, 68, 69, 70, 71, 72, 109, 110, 111, 89, 90, 91, 92, 93, 94, 95, 96, 97, 106, 107, 108] (by decide +kernel) (by decide +kernel)
set_option maxRecDepth 20000 in
theorem gX5_firstWrong_X5_cabinAgrees : GoodIn wsX5_firstWrong (wsV RX5 315 RX5 yX5_cabinAgrees wsX5_cabinAgrees) := goodIn_app (goodIn_of _ (by decide +kernel)) ggX5_firstWrong_X5_cabinAgrees
set_option maxRecDepth 20000 in
theorem ggX5_firstWrong_X5_minuteAgrees : GoodIn wsX5_firstWrong wsX5_minuteAgrees := goodIn_r _ [56, 57, 8, 9, 10, 11, 12, 13, 14, 15, 16, 17, 18, 19, 20, 21, 22, 23, 24, 25, 26, 27, 28, 29, 30, 31, 38, 39, 6, 40, 106, 107, 108, 73, 74, 75, 76, 77, 78, 79, 80, 81, 82, 83, 84, 85, 86, 87, 88, 89, 90, 91, 92, 93, 94, 95, 96, 97] (by decide +kernel) (by decide +kernel)
set_option maxRecDepth 20000 in
theorem gX5_firstWrong_X5_minuteAgrees : GoodIn wsX5_firstWrong (va_wsS RX5 318 yX5_minuteAgrees wsX5_minuteAgrees) := goodIn_app (goodIn_of _ (by decide +kernel)) ggX5_firstWrong_X5_minuteAgrees
set_option maxRecDepth 20000 in
theorem ggX5_firstWrong_X5_moneyAgrees : GoodIn wsX5_firstWrong wsX5_moneyAgrees := goodIn_r _ [60, 8, 9, 10, 11, 12, 13, 14, 15, 16, 17, 18, 19, 20, 21, 22, 23, 24, 25, 26, 27, 28, 29, 30, 31, 38, 39, 6, 40, 106, 107, 108, 73, 74, 75, 76, 77, 78, 79, 80, 81, 82, 83, 84, 85, 86, 87, 88, 89, 90, 91, 92, 93, 94, 95, 96, 97] (by decide +kernel) (by decide +kernel)
set_option maxRecDepth 20000 in
theorem gX5_firstWrong_X5_moneyAgrees : GoodIn wsX5_firstWrong (va_wsS RX5 321 yX5_moneyAgrees wsX5_moneyAgrees) := goodIn_app (goodIn_of _ (by decide +kernel)) ggX5_firstWrong_X5_moneyAgrees
theorem dX5_firstWrong_0 : decode cX5_firstWrong 0 = .ok (.iconst 0, 1) := by decide +kernel
theorem dX5_firstWrong_1 : decode cX5_firstWrong 1 = .ok (.istore_n 2, 1) := by decide +kernel
theorem dX5_firstWrong_2 : decode cX5_firstWrong 2 = .ok (.iload_n 2, 1) := by decide +kernel
theorem dX5_firstWrong_3 : decode cX5_firstWrong 3 = .ok (.aload_n 0, 1) := by decide +kernel
theorem dX5_firstWrong_4 : decode cX5_firstWrong 4 = .ok (.getfield 100, 3) := by decide +kernel
theorem dX5_firstWrong_7 : decode cX5_firstWrong 7 = .ok (.if_icmp .ge 52, 3) := by decide +kernel
theorem dX5_firstWrong_10 : decode cX5_firstWrong 10 = .ok (.aload_n 0, 1) := by decide +kernel
theorem dX5_firstWrong_11 : decode cX5_firstWrong 11 = .ok (.getfield 29, 3) := by decide +kernel
theorem dX5_firstWrong_14 : decode cX5_firstWrong 14 = .ok (.iload_n 2, 1) := by decide +kernel
theorem dX5_firstWrong_15 : decode cX5_firstWrong 15 = .ok (.aaload, 1) := by decide +kernel
theorem dX5_firstWrong_16 : decode cX5_firstWrong 16 = .ok (.astore_n 3, 1) := by decide +kernel
theorem dX5_firstWrong_17 : decode cX5_firstWrong 17 = .ok (.aload_n 0, 1) := by decide +kernel
theorem dX5_firstWrong_18 : decode cX5_firstWrong 18 = .ok (.aload_n 1, 1) := by decide +kernel
theorem dX5_firstWrong_19 : decode cX5_firstWrong 19 = .ok (.aload_n 3, 1) := by decide +kernel
theorem dX5_firstWrong_20 : decode cX5_firstWrong 20 = .ok (.invokevirtual 311, 3) := by decide +kernel
theorem dX5_firstWrong_23 : decode cX5_firstWrong 23 = .ok (.ifCond .eq 28, 3) := by decide +kernel
theorem dX5_firstWrong_26 : decode cX5_firstWrong 26 = .ok (.aload_n 0, 1) := by decide +kernel
theorem dX5_firstWrong_27 : decode cX5_firstWrong 27 = .ok (.aload_n 1, 1) := by decide +kernel
theorem dX5_firstWrong_28 : decode cX5_firstWrong 28 = .ok (.aload_n 3, 1) := by decide +kernel
theorem dX5_firstWrong_29 : decode cX5_firstWrong 29 = .ok (.invokevirtual 315, 3) := by decide +kernel
theorem dX5_firstWrong_32 : decode cX5_firstWrong 32 = .ok (.ifCond .eq 19, 3) := by decide +kernel
theorem dX5_firstWrong_35 : decode cX5_firstWrong 35 = .ok (.aload_n 1, 1) := by decide +kernel
theorem dX5_firstWrong_36 : decode cX5_firstWrong 36 = .ok (.aload_n 3, 1) := by decide +kernel
theorem dX5_firstWrong_37 : decode cX5_firstWrong 37 = .ok (.invokestatic 318, 3) := by decide +kernel
theorem dX5_firstWrong_40 : decode cX5_firstWrong 40 = .ok (.ifCond .eq 11, 3) := by decide +kernel
theorem dX5_firstWrong_43 : decode cX5_firstWrong 43 = .ok (.aload_n 1, 1) := by decide +kernel
theorem dX5_firstWrong_44 : decode cX5_firstWrong 44 = .ok (.aload_n 3, 1) := by decide +kernel
theorem dX5_firstWrong_45 : decode cX5_firstWrong 45 = .ok (.invokestatic 321, 3) := by decide +kernel
theorem dX5_firstWrong_48 : decode cX5_firstWrong 48 = .ok (.ifCond .ne 5, 3) := by decide +kernel
theorem dX5_firstWrong_51 : decode cX5_firstWrong 51 = .ok (.iload_n 2, 1) := by decide +kernel
theorem dX5_firstWrong_52 : decode cX5_firstWrong 52 = .ok (.ireturn, 1) := by decide +kernel
theorem dX5_firstWrong_53 : decode cX5_firstWrong 53 = .ok (.iinc 2 1, 3) := by decide +kernel
theorem dX5_firstWrong_56 : decode cX5_firstWrong 56 = .ok (.goto (-54), 3) := by decide +kernel
theorem dX5_firstWrong_59 : decode cX5_firstWrong 59 = .ok (.iconst (-1), 1) := by decide +kernel
theorem dX5_firstWrong_60 : decode cX5_firstWrong 60 = .ok (.ireturn, 1) := by decide +kernel
set_option maxRecDepth 20000 in
theorem ggX5_placeAgrees_X0_number : GoodIn wsX5_placeAgrees wsX0_number := goodIn_r _ [6, 7, 8, 9, 10, 11, 12, 13, 14, 15, 16, 17, 18, 19, 20, 21, 22, 23, 24, 25, 26, 85, 86, 87, 40, 41, 42, 43, 44, 45, 46, 47, 48, 49, 50, 51, 52, 53, 54, 55, 56, 57, 58, 59, 60, 61, 62, 63, 64] (by decide +kernel) (by decide +kernel)
set_option maxRecDepth 20000 in
theorem gX5_placeAgrees_X0_number_n324 : GoodIn wsX5_placeAgrees (wsX0_number) := ggX5_placeAgrees_X0_number
set_option maxRecDepth 20000 in
theorem ggX5_placeAgrees_X3_hasLane : GoodIn wsX5_placeAgrees wsX3_hasLane := goodIn_r _ [30, 31, 32, 65, 66, 67, 68, 69, 70, 71, 72] (by decide +kernel) (by decide +kernel)
set_option maxRecDepth 20000 in
theorem gX5_placeAgrees_X3_hasLane_n281 : GoodIn wsX5_placeAgrees (wsX3_hasLane) := ggX5_placeAgrees_X3_hasLane
set_option maxRecDepth 20000 in
theorem ggX5_placeAgrees_X5_within : GoodIn wsX5_placeAgrees wsX5_within := goodIn_r _ [36] (by decide +kernel) (by decide +kernel)
set_option maxRecDepth 20000 in
theorem gX5_placeAgrees_X5_within : GoodIn wsX5_placeAgrees (va_wsS RX5 47 yX5_within wsX5_within) := goodIn_app (goodIn_of _ (by decide +kernel)) ggX5_placeAgrees_X5_within
set_option maxRecDepth 20000 in
theorem ggX5_placeAgrees_X5_overlap : GoodIn wsX5_placeAgrees wsX5_overlap := goodIn_r _ [39, 3, 4, 5, 6, 7, 8, 9, 10, 11, 12, 13, 14, 15, 16, 17, 18, 19, 20, 21, 22, 23, 24, 25, 26, 40, 41, 42, 43, 44, 45, 46, 47, 48, 49, 50, 51, 52, 53, 54, 55, 85, 86, 87, 56, 57, 58, 59, 60, 61, 62, 63, 64] (by decide +kernel) (by decide +kernel)
set_option maxRecDepth 20000 in
theorem gX5_placeAgrees_X5_overlap : GoodIn wsX5_placeAgrees (va_wsS RX5 326 yX5_overlap wsX5_overlap) := goodIn_app (goodIn_of _ (by decide +kernel)) ggX5_placeAgrees_X5_overlap
theorem dX5_placeAgrees_0 : decode cX5_placeAgrees 0 = .ok (.aload_n 1, 1) := by decide +kernel
theorem dX5_placeAgrees_1 : decode cX5_placeAgrees 1 = .ok (.aload_n 2, 1) := by decide +kernel
theorem dX5_placeAgrees_2 : decode cX5_placeAgrees 2 = .ok (.bipush 6, 2) := by decide +kernel
theorem dX5_placeAgrees_4 : decode cX5_placeAgrees 4 = .ok (.invokevirtual 324, 3) := by decide +kernel
theorem dX5_placeAgrees_7 : decode cX5_placeAgrees 7 = .ok (.istore_n 3, 1) := by decide +kernel
theorem dX5_placeAgrees_8 : decode cX5_placeAgrees 8 = .ok (.aload_n 1, 1) := by decide +kernel
theorem dX5_placeAgrees_9 : decode cX5_placeAgrees 9 = .ok (.aload_n 2, 1) := by decide +kernel
theorem dX5_placeAgrees_10 : decode cX5_placeAgrees 10 = .ok (.bipush 7, 2) := by decide +kernel
theorem dX5_placeAgrees_12 : decode cX5_placeAgrees 12 = .ok (.invokevirtual 324, 3) := by decide +kernel
theorem dX5_placeAgrees_15 : decode cX5_placeAgrees 15 = .ok (.istore 4, 2) := by decide +kernel
theorem dX5_placeAgrees_17 : decode cX5_placeAgrees 17 = .ok (.aload_n 1, 1) := by decide +kernel
theorem dX5_placeAgrees_18 : decode cX5_placeAgrees 18 = .ok (.aload_n 2, 1) := by decide +kernel
theorem dX5_placeAgrees_19 : decode cX5_placeAgrees 19 = .ok (.bipush 8, 2) := by decide +kernel
theorem dX5_placeAgrees_21 : decode cX5_placeAgrees 21 = .ok (.invokevirtual 324, 3) := by decide +kernel
theorem dX5_placeAgrees_24 : decode cX5_placeAgrees 24 = .ok (.istore 5, 2) := by decide +kernel
theorem dX5_placeAgrees_26 : decode cX5_placeAgrees 26 = .ok (.aload_n 1, 1) := by decide +kernel
theorem dX5_placeAgrees_27 : decode cX5_placeAgrees 27 = .ok (.aload_n 2, 1) := by decide +kernel
theorem dX5_placeAgrees_28 : decode cX5_placeAgrees 28 = .ok (.iconst 4, 1) := by decide +kernel
theorem dX5_placeAgrees_29 : decode cX5_placeAgrees 29 = .ok (.invokevirtual 324, 3) := by decide +kernel
theorem dX5_placeAgrees_32 : decode cX5_placeAgrees 32 = .ok (.iconst 3, 1) := by decide +kernel
theorem dX5_placeAgrees_33 : decode cX5_placeAgrees 33 = .ok (.if_icmp .eq 26, 3) := by decide +kernel
theorem dX5_placeAgrees_36 : decode cX5_placeAgrees 36 = .ok (.iload_n 3, 1) := by decide +kernel
theorem dX5_placeAgrees_37 : decode cX5_placeAgrees 37 = .ok (.iconst (-1), 1) := by decide +kernel
theorem dX5_placeAgrees_38 : decode cX5_placeAgrees 38 = .ok (.if_icmp .ne 19, 3) := by decide +kernel
theorem dX5_placeAgrees_41 : decode cX5_placeAgrees 41 = .ok (.iload 4, 2) := by decide +kernel
theorem dX5_placeAgrees_43 : decode cX5_placeAgrees 43 = .ok (.iconst (-1), 1) := by decide +kernel
theorem dX5_placeAgrees_44 : decode cX5_placeAgrees 44 = .ok (.if_icmp .ne 13, 3) := by decide +kernel
theorem dX5_placeAgrees_47 : decode cX5_placeAgrees 47 = .ok (.iload 5, 2) := by decide +kernel
theorem dX5_placeAgrees_49 : decode cX5_placeAgrees 49 = .ok (.iconst (-1), 1) := by decide +kernel
theorem dX5_placeAgrees_50 : decode cX5_placeAgrees 50 = .ok (.if_icmp .ne 7, 3) := by decide +kernel
theorem dX5_placeAgrees_53 : decode cX5_placeAgrees 53 = .ok (.iconst 1, 1) := by decide +kernel
theorem dX5_placeAgrees_54 : decode cX5_placeAgrees 54 = .ok (.goto 4, 3) := by decide +kernel
theorem dX5_placeAgrees_57 : decode cX5_placeAgrees 57 = .ok (.iconst 0, 1) := by decide +kernel
theorem dX5_placeAgrees_58 : decode cX5_placeAgrees 58 = .ok (.ireturn, 1) := by decide +kernel
theorem dX5_placeAgrees_59 : decode cX5_placeAgrees 59 = .ok (.aload_n 2, 1) := by decide +kernel
theorem dX5_placeAgrees_60 : decode cX5_placeAgrees 60 = .ok (.getfield 122, 3) := by decide +kernel
theorem dX5_placeAgrees_63 : decode cX5_placeAgrees 63 = .ok (.getfield 76, 3) := by decide +kernel
theorem dX5_placeAgrees_66 : decode cX5_placeAgrees 66 = .ok (.astore 6, 2) := by decide +kernel
theorem dX5_placeAgrees_68 : decode cX5_placeAgrees 68 = .ok (.aload 6, 2) := by decide +kernel
theorem dX5_placeAgrees_70 : decode cX5_placeAgrees 70 = .ok (.iload_n 3, 1) := by decide +kernel
theorem dX5_placeAgrees_71 : decode cX5_placeAgrees 71 = .ok (.iload 4, 2) := by decide +kernel
theorem dX5_placeAgrees_73 : decode cX5_placeAgrees 73 = .ok (.invokevirtual 281, 3) := by decide +kernel
theorem dX5_placeAgrees_76 : decode cX5_placeAgrees 76 = .ok (.ifCond .eq 22, 3) := by decide +kernel
theorem dX5_placeAgrees_79 : decode cX5_placeAgrees 79 = .ok (.iload 5, 2) := by decide +kernel
theorem dX5_placeAgrees_81 : decode cX5_placeAgrees 81 = .ok (.iconst 0, 1) := by decide +kernel
theorem dX5_placeAgrees_82 : decode cX5_placeAgrees 82 = .ok (.aload 6, 2) := by decide +kernel
theorem dX5_placeAgrees_84 : decode cX5_placeAgrees 84 = .ok (.getfield 103, 3) := by decide +kernel
theorem dX5_placeAgrees_87 : decode cX5_placeAgrees 87 = .ok (.aload_n 2, 1) := by decide +kernel
theorem dX5_placeAgrees_88 : decode cX5_placeAgrees 88 = .ok (.getfield 234, 3) := by decide +kernel
theorem dX5_placeAgrees_91 : decode cX5_placeAgrees 91 = .ok (.isub, 1) := by decide +kernel
theorem dX5_placeAgrees_92 : decode cX5_placeAgrees 92 = .ok (.invokestatic 47, 3) := by decide +kernel
theorem dX5_placeAgrees_95 : decode cX5_placeAgrees 95 = .ok (.ifCond .ne 5, 3) := by decide +kernel
theorem dX5_placeAgrees_98 : decode cX5_placeAgrees 98 = .ok (.iconst 0, 1) := by decide +kernel
theorem dX5_placeAgrees_99 : decode cX5_placeAgrees 99 = .ok (.ireturn, 1) := by decide +kernel
theorem dX5_placeAgrees_100 : decode cX5_placeAgrees 100 = .ok (.iconst 0, 1) := by decide +kernel
theorem dX5_placeAgrees_101 : decode cX5_placeAgrees 101 = .ok (.istore 7, 2) := by decide +kernel
theorem dX5_placeAgrees_103 : decode cX5_placeAgrees 103 = .ok (.iload 7, 2) := by decide +kernel
theorem dX5_placeAgrees_105 : decode cX5_placeAgrees 105 = .ok (.aload_n 0, 1) := by decide +kernel
theorem dX5_placeAgrees_106 : decode cX5_placeAgrees 106 = .ok (.getfield 100, 3) := by decide +kernel
theorem dX5_placeAgrees_109 : decode cX5_placeAgrees 109 = .ok (.if_icmp .ge 54, 3) := by decide +kernel
theorem dX5_placeAgrees_112 : decode cX5_placeAgrees 112 = .ok (.aload_n 0, 1) := by decide +kernel
theorem dX5_placeAgrees_113 : decode cX5_placeAgrees 113 = .ok (.getfield 29, 3) := by decide +kernel
theorem dX5_placeAgrees_116 : decode cX5_placeAgrees 116 = .ok (.iload 7, 2) := by decide +kernel
theorem dX5_placeAgrees_118 : decode cX5_placeAgrees 118 = .ok (.aaload, 1) := by decide +kernel
theorem dX5_placeAgrees_119 : decode cX5_placeAgrees 119 = .ok (.aload_n 2, 1) := by decide +kernel
theorem dX5_placeAgrees_120 : decode cX5_placeAgrees 120 = .ok (.if_acmp .eq 37, 3) := by decide +kernel
theorem dX5_placeAgrees_123 : decode cX5_placeAgrees 123 = .ok (.aload_n 0, 1) := by decide +kernel
theorem dX5_placeAgrees_124 : decode cX5_placeAgrees 124 = .ok (.getfield 29, 3) := by decide +kernel
theorem dX5_placeAgrees_127 : decode cX5_placeAgrees 127 = .ok (.iload 7, 2) := by decide +kernel
theorem dX5_placeAgrees_129 : decode cX5_placeAgrees 129 = .ok (.aaload, 1) := by decide +kernel
theorem dX5_placeAgrees_130 : decode cX5_placeAgrees 130 = .ok (.getfield 122, 3) := by decide +kernel
theorem dX5_placeAgrees_133 : decode cX5_placeAgrees 133 = .ok (.aload_n 2, 1) := by decide +kernel
theorem dX5_placeAgrees_134 : decode cX5_placeAgrees 134 = .ok (.getfield 122, 3) := by decide +kernel
theorem dX5_placeAgrees_137 : decode cX5_placeAgrees 137 = .ok (.if_acmp .ne 20, 3) := by decide +kernel
theorem dX5_placeAgrees_140 : decode cX5_placeAgrees 140 = .ok (.aload_n 1, 1) := by decide +kernel
theorem dX5_placeAgrees_141 : decode cX5_placeAgrees 141 = .ok (.aload_n 2, 1) := by decide +kernel
theorem dX5_placeAgrees_142 : decode cX5_placeAgrees 142 = .ok (.aload_n 0, 1) := by decide +kernel
theorem dX5_placeAgrees_143 : decode cX5_placeAgrees 143 = .ok (.getfield 29, 3) := by decide +kernel
theorem dX5_placeAgrees_146 : decode cX5_placeAgrees 146 = .ok (.iload 7, 2) := by decide +kernel
theorem dX5_placeAgrees_148 : decode cX5_placeAgrees 148 = .ok (.aaload, 1) := by decide +kernel
theorem dX5_placeAgrees_149 : decode cX5_placeAgrees 149 = .ok (.invokestatic 326, 3) := by decide +kernel
theorem dX5_placeAgrees_152 : decode cX5_placeAgrees 152 = .ok (.ifCond .eq 5, 3) := by decide +kernel
theorem dX5_placeAgrees_155 : decode cX5_placeAgrees 155 = .ok (.iconst 0, 1) := by decide +kernel
theorem dX5_placeAgrees_156 : decode cX5_placeAgrees 156 = .ok (.ireturn, 1) := by decide +kernel
theorem dX5_placeAgrees_157 : decode cX5_placeAgrees 157 = .ok (.iinc 7 1, 3) := by decide +kernel
theorem dX5_placeAgrees_160 : decode cX5_placeAgrees 160 = .ok (.goto (-57), 3) := by decide +kernel
theorem dX5_placeAgrees_163 : decode cX5_placeAgrees 163 = .ok (.iconst 1, 1) := by decide +kernel
theorem dX5_placeAgrees_164 : decode cX5_placeAgrees 164 = .ok (.ireturn, 1) := by decide +kernel
set_option maxRecDepth 20000 in
theorem ggX5_overlap_X0_number : GoodIn wsX5_overlap wsX0_number := goodIn_r _ [4, 5, 6, 7, 8, 9, 10, 11, 12, 13, 14, 15, 16, 17, 18, 19, 20, 21, 22, 23, 24, 41, 42, 43, 25, 26, 27, 28, 29, 30, 31, 32, 33, 34, 35, 36, 37, 38, 39, 40, 44, 45, 46, 47, 48, 49, 50, 51, 52] (by decide +kernel) (by decide +kernel)
set_option maxRecDepth 20000 in
theorem gX5_overlap_X0_number_n324 : GoodIn wsX5_overlap (wsX0_number) := ggX5_overlap_X0_number
theorem dX5_overlap_0 : decode cX5_overlap 0 = .ok (.aload_n 0, 1) := by decide +kernel
theorem dX5_overlap_1 : decode cX5_overlap 1 = .ok (.aload_n 2, 1) := by decide +kernel
theorem dX5_overlap_2 : decode cX5_overlap 2 = .ok (.iconst 4, 1) := by decide +kernel
theorem dX5_overlap_3 : decode cX5_overlap 3 = .ok (.invokevirtual 324, 3) := by decide +kernel
theorem dX5_overlap_6 : decode cX5_overlap 6 = .ok (.iconst 3, 1) := by decide +kernel
theorem dX5_overlap_7 : decode cX5_overlap 7 = .ok (.if_icmp .ne 37, 3) := by decide +kernel
theorem dX5_overlap_10 : decode cX5_overlap 10 = .ok (.aload_n 0, 1) := by decide +kernel
theorem dX5_overlap_11 : decode cX5_overlap 11 = .ok (.aload_n 2, 1) := by decide +kernel
theorem dX5_overlap_12 : decode cX5_overlap 12 = .ok (.bipush 6, 2) := by decide +kernel
theorem dX5_overlap_14 : decode cX5_overlap 14 = .ok (.invokevirtual 324, 3) := by decide +kernel
theorem dX5_overlap_17 : decode cX5_overlap 17 = .ok (.aload_n 0, 1) := by decide +kernel
theorem dX5_overlap_18 : decode cX5_overlap 18 = .ok (.aload_n 1, 1) := by decide +kernel
theorem dX5_overlap_19 : decode cX5_overlap 19 = .ok (.bipush 6, 2) := by decide +kernel
theorem dX5_overlap_21 : decode cX5_overlap 21 = .ok (.invokevirtual 324, 3) := by decide +kernel
theorem dX5_overlap_24 : decode cX5_overlap 24 = .ok (.if_icmp .ne 20, 3) := by decide +kernel
theorem dX5_overlap_27 : decode cX5_overlap 27 = .ok (.aload_n 0, 1) := by decide +kernel
theorem dX5_overlap_28 : decode cX5_overlap 28 = .ok (.aload_n 2, 1) := by decide +kernel
theorem dX5_overlap_29 : decode cX5_overlap 29 = .ok (.bipush 7, 2) := by decide +kernel
theorem dX5_overlap_31 : decode cX5_overlap 31 = .ok (.invokevirtual 324, 3) := by decide +kernel
theorem dX5_overlap_34 : decode cX5_overlap 34 = .ok (.aload_n 0, 1) := by decide +kernel
theorem dX5_overlap_35 : decode cX5_overlap 35 = .ok (.aload_n 1, 1) := by decide +kernel
theorem dX5_overlap_36 : decode cX5_overlap 36 = .ok (.bipush 7, 2) := by decide +kernel
theorem dX5_overlap_38 : decode cX5_overlap 38 = .ok (.invokevirtual 324, 3) := by decide +kernel
theorem dX5_overlap_41 : decode cX5_overlap 41 = .ok (.if_icmp .eq 5, 3) := by decide +kernel
theorem dX5_overlap_44 : decode cX5_overlap 44 = .ok (.iconst 0, 1) := by decide +kernel
theorem dX5_overlap_45 : decode cX5_overlap 45 = .ok (.ireturn, 1) := by decide +kernel
theorem dX5_overlap_46 : decode cX5_overlap 46 = .ok (.aload_n 0, 1) := by decide +kernel
theorem dX5_overlap_47 : decode cX5_overlap 47 = .ok (.aload_n 1, 1) := by decide +kernel
theorem dX5_overlap_48 : decode cX5_overlap 48 = .ok (.bipush 8, 2) := by decide +kernel
theorem dX5_overlap_50 : decode cX5_overlap 50 = .ok (.invokevirtual 324, 3) := by decide +kernel
theorem dX5_overlap_53 : decode cX5_overlap 53 = .ok (.i2l, 1) := by decide +kernel
theorem dX5_overlap_54 : decode cX5_overlap 54 = .ok (.lstore_n 3, 1) := by decide +kernel
theorem dX5_overlap_55 : decode cX5_overlap 55 = .ok (.aload_n 0, 1) := by decide +kernel
theorem dX5_overlap_56 : decode cX5_overlap 56 = .ok (.aload_n 2, 1) := by decide +kernel
theorem dX5_overlap_57 : decode cX5_overlap 57 = .ok (.bipush 8, 2) := by decide +kernel
theorem dX5_overlap_59 : decode cX5_overlap 59 = .ok (.invokevirtual 324, 3) := by decide +kernel
theorem dX5_overlap_62 : decode cX5_overlap 62 = .ok (.i2l, 1) := by decide +kernel
theorem dX5_overlap_63 : decode cX5_overlap 63 = .ok (.lstore 5, 2) := by decide +kernel
theorem dX5_overlap_65 : decode cX5_overlap 65 = .ok (.lload 5, 2) := by decide +kernel
theorem dX5_overlap_67 : decode cX5_overlap 67 = .ok (.lload_n 3, 1) := by decide +kernel
theorem dX5_overlap_68 : decode cX5_overlap 68 = .ok (.aload_n 1, 1) := by decide +kernel
theorem dX5_overlap_69 : decode cX5_overlap 69 = .ok (.getfield 234, 3) := by decide +kernel
theorem dX5_overlap_72 : decode cX5_overlap 72 = .ok (.i2l, 1) := by decide +kernel
theorem dX5_overlap_73 : decode cX5_overlap 73 = .ok (.ladd, 1) := by decide +kernel
theorem dX5_overlap_74 : decode cX5_overlap 74 = .ok (.lcmp, 1) := by decide +kernel
theorem dX5_overlap_75 : decode cX5_overlap 75 = .ok (.ifCond .ge 20, 3) := by decide +kernel
theorem dX5_overlap_78 : decode cX5_overlap 78 = .ok (.lload_n 3, 1) := by decide +kernel
theorem dX5_overlap_79 : decode cX5_overlap 79 = .ok (.lload 5, 2) := by decide +kernel
theorem dX5_overlap_81 : decode cX5_overlap 81 = .ok (.aload_n 2, 1) := by decide +kernel
theorem dX5_overlap_82 : decode cX5_overlap 82 = .ok (.getfield 234, 3) := by decide +kernel
theorem dX5_overlap_85 : decode cX5_overlap 85 = .ok (.i2l, 1) := by decide +kernel
theorem dX5_overlap_86 : decode cX5_overlap 86 = .ok (.ladd, 1) := by decide +kernel
theorem dX5_overlap_87 : decode cX5_overlap 87 = .ok (.lcmp, 1) := by decide +kernel
theorem dX5_overlap_88 : decode cX5_overlap 88 = .ok (.ifCond .ge 7, 3) := by decide +kernel
theorem dX5_overlap_91 : decode cX5_overlap 91 = .ok (.iconst 1, 1) := by decide +kernel
theorem dX5_overlap_92 : decode cX5_overlap 92 = .ok (.goto 4, 3) := by decide +kernel
theorem dX5_overlap_95 : decode cX5_overlap 95 = .ok (.iconst 0, 1) := by decide +kernel
theorem dX5_overlap_96 : decode cX5_overlap 96 = .ok (.ireturn, 1) := by decide +kernel
set_option maxRecDepth 20000 in
theorem ggX5_cabinAgrees_X0_number : GoodIn wsX5_cabinAgrees wsX0_number := goodIn_r _ [8, 9, 10, 11, 12, 13, 14, 15, 16, 17, 18, 19, 20, 21, 22, 23, 24, 25, 26, 27, 28, 77, 78, 79, 37, 38, 39, 40, 41, 42, 43, 44, 45, 46, 47, 48, 49, 50, 51, 52, 68, 69, 70, 71, 72, 73, 74, 75, 76] (by decide +kernel) (by decide +kernel)
set_option maxRecDepth 20000 in
theorem gX5_cabinAgrees_X0_number_n324 : GoodIn wsX5_cabinAgrees (wsX0_number) := ggX5_cabinAgrees_X0_number
set_option maxRecDepth 20000 in
theorem ggX5_cabinAgrees_X0_mayHaveCabin : GoodIn wsX5_cabinAgrees wsX0_mayHaveCabin := goodIn_r _ [31, 32, 5, 7, 6, 8, 9, 10, 11, 12, 13, 14, 15, 16, 17, 18, 19, 20, 21, 22, 23, 24, 25, 26, 27, 28, 77, 78, 79, 37, 38, 39, 40, 41, 42, 43, 44, 45, 46, 47, 48, 49, 50, 51, 52, 68, 69, 70, 71, 72, 73, 74, 75, 76] (by decide +kernel) (by decide +kernel)
set_option maxRecDepth 20000 in
theorem gX5_cabinAgrees_X0_mayHaveCabin_n330 : GoodIn wsX5_cabinAgrees (wsX0_mayHaveCabin) := ggX5_cabinAgrees_X0_mayHaveCabin
set_option maxRecDepth 20000 in
theorem ggX5_cabinAgrees_X5_within : GoodIn wsX5_cabinAgrees wsX5_within := goodIn_r _ [36] (by decide +kernel) (by decide +kernel)
set_option maxRecDepth 20000 in
theorem gX5_cabinAgrees_X5_within : GoodIn wsX5_cabinAgrees (va_wsS RX5 47 yX5_within wsX5_within) := goodIn_app (goodIn_of _ (by decide +kernel)) ggX5_cabinAgrees_X5_within
theorem dX5_cabinAgrees_0 : decode cX5_cabinAgrees 0 = .ok (.aload_n 1, 1) := by decide +kernel
theorem dX5_cabinAgrees_1 : decode cX5_cabinAgrees 1 = .ok (.aload_n 2, 1) := by decide +kernel
theorem dX5_cabinAgrees_2 : decode cX5_cabinAgrees 2 = .ok (.bipush 9, 2) := by decide +kernel
theorem dX5_cabinAgrees_4 : decode cX5_cabinAgrees 4 = .ok (.invokevirtual 324, 3) := by decide +kernel
theorem dX5_cabinAgrees_7 : decode cX5_cabinAgrees 7 = .ok (.istore_n 3, 1) := by decide +kernel
theorem dX5_cabinAgrees_8 : decode cX5_cabinAgrees 8 = .ok (.iload_n 3, 1) := by decide +kernel
theorem dX5_cabinAgrees_9 : decode cX5_cabinAgrees 9 = .ok (.iconst (-1), 1) := by decide +kernel
theorem dX5_cabinAgrees_10 : decode cX5_cabinAgrees 10 = .ok (.if_icmp .ne 5, 3) := by decide +kernel
theorem dX5_cabinAgrees_13 : decode cX5_cabinAgrees 13 = .ok (.iconst 1, 1) := by decide +kernel
theorem dX5_cabinAgrees_14 : decode cX5_cabinAgrees 14 = .ok (.ireturn, 1) := by decide +kernel
theorem dX5_cabinAgrees_15 : decode cX5_cabinAgrees 15 = .ok (.aload_n 1, 1) := by decide +kernel
theorem dX5_cabinAgrees_16 : decode cX5_cabinAgrees 16 = .ok (.aload_n 2, 1) := by decide +kernel
theorem dX5_cabinAgrees_17 : decode cX5_cabinAgrees 17 = .ok (.invokevirtual 330, 3) := by decide +kernel
theorem dX5_cabinAgrees_20 : decode cX5_cabinAgrees 20 = .ok (.ifCond .eq 24, 3) := by decide +kernel
theorem dX5_cabinAgrees_23 : decode cX5_cabinAgrees 23 = .ok (.aload_n 2, 1) := by decide +kernel
theorem dX5_cabinAgrees_24 : decode cX5_cabinAgrees 24 = .ok (.getfield 197, 3) := by decide +kernel
end
section
theorem dX5_cabinAgrees_27 : decode cX5_cabinAgrees 27 = .ok (.ifCond .eq 17, 3) := by decide +kernel
theorem dX5_cabinAgrees_30 : decode cX5_cabinAgrees 30 = .ok (.iload_n 3, 1) := by decide +kernel
theorem dX5_cabinAgrees_31 : decode cX5_cabinAgrees 31 = .ok (.iconst 0, 1) := by decide +kernel
theorem dX5_cabinAgrees_32 : decode cX5_cabinAgrees 32 = .ok (.aload_n 0, 1) := by decide +kernel
theorem dX5_cabinAgrees_33 : decode cX5_cabinAgrees 33 = .ok (.getfield 58, 3) := by decide +kernel
theorem dX5_cabinAgrees_36 : decode cX5_cabinAgrees 36 = .ok (.iconst 1, 1) := by decide +kernel
theorem dX5_cabinAgrees_37 : decode cX5_cabinAgrees 37 = .ok (.isub, 1) := by decide +kernel
theorem dX5_cabinAgrees_38 : decode cX5_cabinAgrees 38 = .ok (.invokestatic 47, 3) := by decide +kernel
theorem dX5_cabinAgrees_41 : decode cX5_cabinAgrees 41 = .ok (.ifCond .ne 5, 3) := by decide +kernel
theorem dX5_cabinAgrees_44 : decode cX5_cabinAgrees 44 = .ok (.iconst 0, 1) := by decide +kernel
theorem dX5_cabinAgrees_45 : decode cX5_cabinAgrees 45 = .ok (.ireturn, 1) := by decide +kernel
theorem dX5_cabinAgrees_46 : decode cX5_cabinAgrees 46 = .ok (.aload_n 0, 1) := by decide +kernel
theorem dX5_cabinAgrees_47 : decode cX5_cabinAgrees 47 = .ok (.getfield 17, 3) := by decide +kernel
theorem dX5_cabinAgrees_50 : decode cX5_cabinAgrees 50 = .ok (.iload_n 3, 1) := by decide +kernel
theorem dX5_cabinAgrees_51 : decode cX5_cabinAgrees 51 = .ok (.aaload, 1) := by decide +kernel
theorem dX5_cabinAgrees_52 : decode cX5_cabinAgrees 52 = .ok (.astore 4, 2) := by decide +kernel
theorem dX5_cabinAgrees_54 : decode cX5_cabinAgrees 54 = .ok (.aload 4, 2) := by decide +kernel
theorem dX5_cabinAgrees_56 : decode cX5_cabinAgrees 56 = .ok (.getfield 211, 3) := by decide +kernel
theorem dX5_cabinAgrees_59 : decode cX5_cabinAgrees 59 = .ok (.aload_n 2, 1) := by decide +kernel
theorem dX5_cabinAgrees_60 : decode cX5_cabinAgrees 60 = .ok (.getfield 122, 3) := by decide +kernel
theorem dX5_cabinAgrees_63 : decode cX5_cabinAgrees 63 = .ok (.getfield 76, 3) := by decide +kernel
theorem dX5_cabinAgrees_66 : decode cX5_cabinAgrees 66 = .ok (.if_acmp .ne 15, 3) := by decide +kernel
theorem dX5_cabinAgrees_69 : decode cX5_cabinAgrees 69 = .ok (.aload 4, 2) := by decide +kernel
theorem dX5_cabinAgrees_71 : decode cX5_cabinAgrees 71 = .ok (.getfield 215, 3) := by decide +kernel
theorem dX5_cabinAgrees_74 : decode cX5_cabinAgrees 74 = .ok (.aload_n 2, 1) := by decide +kernel
theorem dX5_cabinAgrees_75 : decode cX5_cabinAgrees 75 = .ok (.getfield 197, 3) := by decide +kernel
theorem dX5_cabinAgrees_78 : decode cX5_cabinAgrees 78 = .ok (.if_icmp .ge 5, 3) := by decide +kernel
theorem dX5_cabinAgrees_81 : decode cX5_cabinAgrees 81 = .ok (.iconst 0, 1) := by decide +kernel
theorem dX5_cabinAgrees_82 : decode cX5_cabinAgrees 82 = .ok (.ireturn, 1) := by decide +kernel
theorem dX5_cabinAgrees_83 : decode cX5_cabinAgrees 83 = .ok (.iconst 0, 1) := by decide +kernel
theorem dX5_cabinAgrees_84 : decode cX5_cabinAgrees 84 = .ok (.istore 5, 2) := by decide +kernel
theorem dX5_cabinAgrees_86 : decode cX5_cabinAgrees 86 = .ok (.iload 5, 2) := by decide +kernel
theorem dX5_cabinAgrees_88 : decode cX5_cabinAgrees 88 = .ok (.aload_n 0, 1) := by decide +kernel
theorem dX5_cabinAgrees_89 : decode cX5_cabinAgrees 89 = .ok (.getfield 100, 3) := by decide +kernel
theorem dX5_cabinAgrees_92 : decode cX5_cabinAgrees 92 = .ok (.if_icmp .ge 59, 3) := by decide +kernel
theorem dX5_cabinAgrees_95 : decode cX5_cabinAgrees 95 = .ok (.aload_n 0, 1) := by decide +kernel
theorem dX5_cabinAgrees_96 : decode cX5_cabinAgrees 96 = .ok (.getfield 29, 3) := by decide +kernel
theorem dX5_cabinAgrees_99 : decode cX5_cabinAgrees 99 = .ok (.iload 5, 2) := by decide +kernel
theorem dX5_cabinAgrees_101 : decode cX5_cabinAgrees 101 = .ok (.aaload, 1) := by decide +kernel
theorem dX5_cabinAgrees_102 : decode cX5_cabinAgrees 102 = .ok (.astore 6, 2) := by decide +kernel
theorem dX5_cabinAgrees_104 : decode cX5_cabinAgrees 104 = .ok (.aload 6, 2) := by decide +kernel
theorem dX5_cabinAgrees_106 : decode cX5_cabinAgrees 106 = .ok (.aload_n 2, 1) := by decide +kernel
theorem dX5_cabinAgrees_107 : decode cX5_cabinAgrees 107 = .ok (.if_acmp .eq 38, 3) := by decide +kernel
theorem dX5_cabinAgrees_110 : decode cX5_cabinAgrees 110 = .ok (.aload 6, 2) := by decide +kernel
theorem dX5_cabinAgrees_112 : decode cX5_cabinAgrees 112 = .ok (.getfield 122, 3) := by decide +kernel
theorem dX5_cabinAgrees_115 : decode cX5_cabinAgrees 115 = .ok (.aload_n 2, 1) := by decide +kernel
theorem dX5_cabinAgrees_116 : decode cX5_cabinAgrees 116 = .ok (.getfield 122, 3) := by decide +kernel
theorem dX5_cabinAgrees_119 : decode cX5_cabinAgrees 119 = .ok (.if_acmp .ne 26, 3) := by decide +kernel
theorem dX5_cabinAgrees_122 : decode cX5_cabinAgrees 122 = .ok (.aload_n 1, 1) := by decide +kernel
theorem dX5_cabinAgrees_123 : decode cX5_cabinAgrees 123 = .ok (.aload 6, 2) := by decide +kernel
theorem dX5_cabinAgrees_125 : decode cX5_cabinAgrees 125 = .ok (.invokevirtual 330, 3) := by decide +kernel
theorem dX5_cabinAgrees_128 : decode cX5_cabinAgrees 128 = .ok (.ifCond .eq 17, 3) := by decide +kernel
theorem dX5_cabinAgrees_131 : decode cX5_cabinAgrees 131 = .ok (.aload_n 1, 1) := by decide +kernel
theorem dX5_cabinAgrees_132 : decode cX5_cabinAgrees 132 = .ok (.aload 6, 2) := by decide +kernel
theorem dX5_cabinAgrees_134 : decode cX5_cabinAgrees 134 = .ok (.bipush 9, 2) := by decide +kernel
theorem dX5_cabinAgrees_136 : decode cX5_cabinAgrees 136 = .ok (.invokevirtual 324, 3) := by decide +kernel
theorem dX5_cabinAgrees_139 : decode cX5_cabinAgrees 139 = .ok (.iload_n 3, 1) := by decide +kernel
theorem dX5_cabinAgrees_140 : decode cX5_cabinAgrees 140 = .ok (.if_icmp .ne 5, 3) := by decide +kernel
theorem dX5_cabinAgrees_143 : decode cX5_cabinAgrees 143 = .ok (.iconst 0, 1) := by decide +kernel
theorem dX5_cabinAgrees_144 : decode cX5_cabinAgrees 144 = .ok (.ireturn, 1) := by decide +kernel
theorem dX5_cabinAgrees_145 : decode cX5_cabinAgrees 145 = .ok (.iinc 5 1, 3) := by decide +kernel
theorem dX5_cabinAgrees_148 : decode cX5_cabinAgrees 148 = .ok (.goto (-62), 3) := by decide +kernel
theorem dX5_cabinAgrees_151 : decode cX5_cabinAgrees 151 = .ok (.iconst 1, 1) := by decide +kernel
theorem dX5_cabinAgrees_152 : decode cX5_cabinAgrees 152 = .ok (.ireturn, 1) := by decide +kernel
set_option maxRecDepth 20000 in
theorem ggX5_minuteAgrees_X0_number : GoodIn wsX5_minuteAgrees wsX0_number := goodIn_r _ [5, 6, 7, 8, 9, 10, 11, 12, 13, 14, 15, 16, 17, 18, 19, 20, 21, 22, 23, 24, 25, 30, 31, 32, 33, 34, 35, 36, 37, 38, 39, 40, 41, 42, 43, 44, 45, 46, 47, 48, 49, 50, 51, 52, 53, 54, 55, 56, 57] (by decide +kernel) (by decide +kernel)
set_option maxRecDepth 20000 in
theorem gX5_minuteAgrees_X0_number_n324 : GoodIn wsX5_minuteAgrees (wsX0_number) := ggX5_minuteAgrees_X0_number
set_option maxRecDepth 20000 in
theorem ggX5_minuteAgrees_X5_within : GoodIn wsX5_minuteAgrees wsX5_within := goodIn_r _ [29] (by decide +kernel) (by decide +kernel)
set_option maxRecDepth 20000 in
theorem gX5_minuteAgrees_X5_within : GoodIn wsX5_minuteAgrees (va_wsS RX5 47 yX5_within wsX5_within) := goodIn_app (goodIn_of _ (by decide +kernel)) ggX5_minuteAgrees_X5_within
theorem dX5_minuteAgrees_0 : decode cX5_minuteAgrees 0 = .ok (.aload_n 0, 1) := by decide +kernel
theorem dX5_minuteAgrees_1 : decode cX5_minuteAgrees 1 = .ok (.aload_n 1, 1) := by decide +kernel
theorem dX5_minuteAgrees_2 : decode cX5_minuteAgrees 2 = .ok (.iconst 5, 1) := by decide +kernel
theorem dX5_minuteAgrees_3 : decode cX5_minuteAgrees 3 = .ok (.invokevirtual 324, 3) := by decide +kernel
theorem dX5_minuteAgrees_6 : decode cX5_minuteAgrees 6 = .ok (.istore_n 2, 1) := by decide +kernel
theorem dX5_minuteAgrees_7 : decode cX5_minuteAgrees 7 = .ok (.aload_n 0, 1) := by decide +kernel
theorem dX5_minuteAgrees_8 : decode cX5_minuteAgrees 8 = .ok (.aload_n 1, 1) := by decide +kernel
theorem dX5_minuteAgrees_9 : decode cX5_minuteAgrees 9 = .ok (.iconst 4, 1) := by decide +kernel
theorem dX5_minuteAgrees_10 : decode cX5_minuteAgrees 10 = .ok (.invokevirtual 324, 3) := by decide +kernel
theorem dX5_minuteAgrees_13 : decode cX5_minuteAgrees 13 = .ok (.tableswitch 66 0 7 #[55, 47, 47, 47, 47, 66, 47, 55], 47) := by decide +kernel
theorem dX5_minuteAgrees_60 : decode cX5_minuteAgrees 60 = .ok (.iload_n 2, 1) := by decide +kernel
theorem dX5_minuteAgrees_61 : decode cX5_minuteAgrees 61 = .ok (.iconst 0, 1) := by decide +kernel
theorem dX5_minuteAgrees_62 : decode cX5_minuteAgrees 62 = .ok (.ldc 121, 2) := by decide +kernel
theorem dX5_minuteAgrees_64 : decode cX5_minuteAgrees 64 = .ok (.invokestatic 47, 3) := by decide +kernel
theorem dX5_minuteAgrees_67 : decode cX5_minuteAgrees 67 = .ok (.ireturn, 1) := by decide +kernel
theorem dX5_minuteAgrees_68 : decode cX5_minuteAgrees 68 = .ok (.iload_n 2, 1) := by decide +kernel
theorem dX5_minuteAgrees_69 : decode cX5_minuteAgrees 69 = .ok (.iconst (-1), 1) := by decide +kernel
theorem dX5_minuteAgrees_70 : decode cX5_minuteAgrees 70 = .ok (.if_icmp .ne 7, 3) := by decide +kernel
theorem dX5_minuteAgrees_73 : decode cX5_minuteAgrees 73 = .ok (.iconst 1, 1) := by decide +kernel
theorem dX5_minuteAgrees_74 : decode cX5_minuteAgrees 74 = .ok (.goto 4, 3) := by decide +kernel
theorem dX5_minuteAgrees_77 : decode cX5_minuteAgrees 77 = .ok (.iconst 0, 1) := by decide +kernel
theorem dX5_minuteAgrees_78 : decode cX5_minuteAgrees 78 = .ok (.ireturn, 1) := by decide +kernel
theorem dX5_minuteAgrees_79 : decode cX5_minuteAgrees 79 = .ok (.iconst 1, 1) := by decide +kernel
theorem dX5_minuteAgrees_80 : decode cX5_minuteAgrees 80 = .ok (.ireturn, 1) := by decide +kernel
set_option maxRecDepth 20000 in
theorem ggX5_moneyAgrees_X0_number : GoodIn wsX5_moneyAgrees wsX0_number := goodIn_r _ [4, 5, 6, 7, 8, 9, 10, 11, 12, 13, 14, 15, 16, 17, 18, 19, 20, 21, 22, 23, 24, 29, 30, 31, 32, 33, 34, 35, 36, 37, 38, 39, 40, 41, 42, 43, 44, 45, 46, 47, 48, 49, 50, 51, 52, 53, 54, 55, 56] (by decide +kernel) (by decide +kernel)
set_option maxRecDepth 20000 in
theorem gX5_moneyAgrees_X0_number_n324 : GoodIn wsX5_moneyAgrees (wsX0_number) := ggX5_moneyAgrees_X0_number
set_option maxRecDepth 20000 in
theorem ggX5_moneyAgrees_X5_within : GoodIn wsX5_moneyAgrees wsX5_within := goodIn_r _ [28] (by decide +kernel) (by decide +kernel)
set_option maxRecDepth 20000 in
theorem gX5_moneyAgrees_X5_within : GoodIn wsX5_moneyAgrees (va_wsS RX5 47 yX5_within wsX5_within) := goodIn_app (goodIn_of _ (by decide +kernel)) ggX5_moneyAgrees_X5_within
theorem dX5_moneyAgrees_0 : decode cX5_moneyAgrees 0 = .ok (.aload_n 0, 1) := by decide +kernel
theorem dX5_moneyAgrees_1 : decode cX5_moneyAgrees 1 = .ok (.aload_n 1, 1) := by decide +kernel
theorem dX5_moneyAgrees_2 : decode cX5_moneyAgrees 2 = .ok (.iconst 4, 1) := by decide +kernel
theorem dX5_moneyAgrees_3 : decode cX5_moneyAgrees 3 = .ok (.invokevirtual 324, 3) := by decide +kernel
theorem dX5_moneyAgrees_6 : decode cX5_moneyAgrees 6 = .ok (.istore_n 2, 1) := by decide +kernel
theorem dX5_moneyAgrees_7 : decode cX5_moneyAgrees 7 = .ok (.aload_n 0, 1) := by decide +kernel
theorem dX5_moneyAgrees_8 : decode cX5_moneyAgrees 8 = .ok (.aload_n 1, 1) := by decide +kernel
theorem dX5_moneyAgrees_9 : decode cX5_moneyAgrees 9 = .ok (.bipush 10, 2) := by decide +kernel
theorem dX5_moneyAgrees_11 : decode cX5_moneyAgrees 11 = .ok (.invokevirtual 324, 3) := by decide +kernel
theorem dX5_moneyAgrees_14 : decode cX5_moneyAgrees 14 = .ok (.istore_n 3, 1) := by decide +kernel
theorem dX5_moneyAgrees_15 : decode cX5_moneyAgrees 15 = .ok (.iconst 0, 1) := by decide +kernel
theorem dX5_moneyAgrees_16 : decode cX5_moneyAgrees 16 = .ok (.istore 4, 2) := by decide +kernel
theorem dX5_moneyAgrees_18 : decode cX5_moneyAgrees 18 = .ok (.iload_n 2, 1) := by decide +kernel
theorem dX5_moneyAgrees_19 : decode cX5_moneyAgrees 19 = .ok (.iconst 5, 1) := by decide +kernel
theorem dX5_moneyAgrees_20 : decode cX5_moneyAgrees 20 = .ok (.if_icmp .ne 9, 3) := by decide +kernel
theorem dX5_moneyAgrees_23 : decode cX5_moneyAgrees 23 = .ok (.iload_n 3, 1) := by decide +kernel
theorem dX5_moneyAgrees_24 : decode cX5_moneyAgrees 24 = .ok (.istore 4, 2) := by decide +kernel
theorem dX5_moneyAgrees_26 : decode cX5_moneyAgrees 26 = .ok (.goto 14, 3) := by decide +kernel
theorem dX5_moneyAgrees_29 : decode cX5_moneyAgrees 29 = .ok (.iload_n 2, 1) := by decide +kernel
theorem dX5_moneyAgrees_30 : decode cX5_moneyAgrees 30 = .ok (.bipush 7, 2) := by decide +kernel
theorem dX5_moneyAgrees_32 : decode cX5_moneyAgrees 32 = .ok (.if_icmp .ne 8, 3) := by decide +kernel
theorem dX5_moneyAgrees_35 : decode cX5_moneyAgrees 35 = .ok (.iload_n 3, 1) := by decide +kernel
theorem dX5_moneyAgrees_36 : decode cX5_moneyAgrees 36 = .ok (.iconst 2, 1) := by decide +kernel
theorem dX5_moneyAgrees_37 : decode cX5_moneyAgrees 37 = .ok (.idiv, 1) := by decide +kernel
theorem dX5_moneyAgrees_38 : decode cX5_moneyAgrees 38 = .ok (.istore 4, 2) := by decide +kernel
theorem dX5_moneyAgrees_40 : decode cX5_moneyAgrees 40 = .ok (.iload_n 2, 1) := by decide +kernel
theorem dX5_moneyAgrees_41 : decode cX5_moneyAgrees 41 = .ok (.iconst 0, 1) := by decide +kernel
theorem dX5_moneyAgrees_42 : decode cX5_moneyAgrees 42 = .ok (.bipush 7, 2) := by decide +kernel
theorem dX5_moneyAgrees_44 : decode cX5_moneyAgrees 44 = .ok (.invokestatic 47, 3) := by decide +kernel
theorem dX5_moneyAgrees_47 : decode cX5_moneyAgrees 47 = .ok (.ifCond .eq 26, 3) := by decide +kernel
theorem dX5_moneyAgrees_50 : decode cX5_moneyAgrees 50 = .ok (.iload_n 3, 1) := by decide +kernel
theorem dX5_moneyAgrees_51 : decode cX5_moneyAgrees 51 = .ok (.sipush 500, 3) := by decide +kernel
theorem dX5_moneyAgrees_54 : decode cX5_moneyAgrees 54 = .ok (.if_icmp .lt 19, 3) := by decide +kernel
theorem dX5_moneyAgrees_57 : decode cX5_moneyAgrees 57 = .ok (.aload_n 0, 1) := by decide +kernel
theorem dX5_moneyAgrees_58 : decode cX5_moneyAgrees 58 = .ok (.aload_n 1, 1) := by decide +kernel
theorem dX5_moneyAgrees_59 : decode cX5_moneyAgrees 59 = .ok (.bipush 11, 2) := by decide +kernel
theorem dX5_moneyAgrees_61 : decode cX5_moneyAgrees 61 = .ok (.invokevirtual 324, 3) := by decide +kernel
theorem dX5_moneyAgrees_64 : decode cX5_moneyAgrees 64 = .ok (.iload 4, 2) := by decide +kernel
theorem dX5_moneyAgrees_66 : decode cX5_moneyAgrees 66 = .ok (.if_icmp .ne 7, 3) := by decide +kernel
theorem dX5_moneyAgrees_69 : decode cX5_moneyAgrees 69 = .ok (.iconst 1, 1) := by decide +kernel
theorem dX5_moneyAgrees_70 : decode cX5_moneyAgrees 70 = .ok (.goto 4, 3) := by decide +kernel
theorem dX5_moneyAgrees_73 : decode cX5_moneyAgrees 73 = .ok (.iconst 0, 1) := by decide +kernel
theorem dX5_moneyAgrees_74 : decode cX5_moneyAgrees 74 = .ok (.ireturn, 1) := by decide +kernel
theorem dX5_within_0 : decode cX5_within 0 = .ok (.iload_n 0, 1) := by decide +kernel
theorem dX5_within_1 : decode cX5_within 1 = .ok (.iload_n 1, 1) := by decide +kernel
theorem dX5_within_2 : decode cX5_within 2 = .ok (.if_icmp .lt 12, 3) := by decide +kernel
theorem dX5_within_5 : decode cX5_within 5 = .ok (.iload_n 0, 1) := by decide +kernel
theorem dX5_within_6 : decode cX5_within 6 = .ok (.iload_n 2, 1) := by decide +kernel
theorem dX5_within_7 : decode cX5_within 7 = .ok (.if_icmp .gt 7, 3) := by decide +kernel
theorem dX5_within_10 : decode cX5_within 10 = .ok (.iconst 1, 1) := by decide +kernel
theorem dX5_within_11 : decode cX5_within 11 = .ok (.goto 4, 3) := by decide +kernel
theorem dX5_within_14 : decode cX5_within 14 = .ok (.iconst 0, 1) := by decide +kernel
theorem dX5_within_15 : decode cX5_within 15 = .ok (.ireturn, 1) := by decide +kernel
set_option maxRecDepth 20000 in
theorem ggX5_shipNumbered_X5_within : GoodIn wsX5_shipNumbered wsX5_within := goodIn_r _ [6] (by decide +kernel) (by decide +kernel)
set_option maxRecDepth 20000 in
theorem gX5_shipNumbered_X5_within : GoodIn wsX5_shipNumbered (va_wsS RX5 47 yX5_within wsX5_within) := goodIn_app (goodIn_of _ (by decide +kernel)) ggX5_shipNumbered_X5_within
theorem dX5_shipNumbered_0 : decode cX5_shipNumbered 0 = .ok (.iload_n 1, 1) := by decide +kernel
theorem dX5_shipNumbered_1 : decode cX5_shipNumbered 1 = .ok (.iconst 0, 1) := by decide +kernel
theorem dX5_shipNumbered_2 : decode cX5_shipNumbered 2 = .ok (.aload_n 0, 1) := by decide +kernel
theorem dX5_shipNumbered_3 : decode cX5_shipNumbered 3 = .ok (.getfield 43, 3) := by decide +kernel
theorem dX5_shipNumbered_6 : decode cX5_shipNumbered 6 = .ok (.iconst 1, 1) := by decide +kernel
theorem dX5_shipNumbered_7 : decode cX5_shipNumbered 7 = .ok (.isub, 1) := by decide +kernel
theorem dX5_shipNumbered_8 : decode cX5_shipNumbered 8 = .ok (.invokestatic 47, 3) := by decide +kernel
theorem dX5_shipNumbered_11 : decode cX5_shipNumbered 11 = .ok (.ifCond .eq 12, 3) := by decide +kernel
theorem dX5_shipNumbered_14 : decode cX5_shipNumbered 14 = .ok (.aload_n 0, 1) := by decide +kernel
theorem dX5_shipNumbered_15 : decode cX5_shipNumbered 15 = .ok (.getfield 11, 3) := by decide +kernel
theorem dX5_shipNumbered_18 : decode cX5_shipNumbered 18 = .ok (.iload_n 1, 1) := by decide +kernel
theorem dX5_shipNumbered_19 : decode cX5_shipNumbered 19 = .ok (.aaload, 1) := by decide +kernel
theorem dX5_shipNumbered_20 : decode cX5_shipNumbered 20 = .ok (.goto 4, 3) := by decide +kernel
theorem dX5_shipNumbered_23 : decode cX5_shipNumbered 23 = .ok (.aconst_null, 1) := by decide +kernel
theorem dX5_shipNumbered_24 : decode cX5_shipNumbered 24 = .ok (.areturn, 1) := by decide +kernel
set_option maxRecDepth 20000 in
theorem ggX5_sailingNumbered_X5_within : GoodIn wsX5_sailingNumbered wsX5_within := goodIn_r _ [6] (by decide +kernel) (by decide +kernel)
set_option maxRecDepth 20000 in
theorem gX5_sailingNumbered_X5_within : GoodIn wsX5_sailingNumbered (va_wsS RX5 47 yX5_within wsX5_within) := goodIn_app (goodIn_of _ (by decide +kernel)) ggX5_sailingNumbered_X5_within
theorem dX5_sailingNumbered_0 : decode cX5_sailingNumbered 0 = .ok (.iload_n 1, 1) := by decide +kernel
theorem dX5_sailingNumbered_1 : decode cX5_sailingNumbered 1 = .ok (.iconst 0, 1) := by decide +kernel
theorem dX5_sailingNumbered_2 : decode cX5_sailingNumbered 2 = .ok (.aload_n 0, 1) := by decide +kernel
theorem dX5_sailingNumbered_3 : decode cX5_sailingNumbered 3 = .ok (.getfield 65, 3) := by decide +kernel
theorem dX5_sailingNumbered_6 : decode cX5_sailingNumbered 6 = .ok (.iconst 1, 1) := by decide +kernel
theorem dX5_sailingNumbered_7 : decode cX5_sailingNumbered 7 = .ok (.isub, 1) := by decide +kernel
theorem dX5_sailingNumbered_8 : decode cX5_sailingNumbered 8 = .ok (.invokestatic 47, 3) := by decide +kernel
theorem dX5_sailingNumbered_11 : decode cX5_sailingNumbered 11 = .ok (.ifCond .eq 12, 3) := by decide +kernel
theorem dX5_sailingNumbered_14 : decode cX5_sailingNumbered 14 = .ok (.aload_n 0, 1) := by decide +kernel
theorem dX5_sailingNumbered_15 : decode cX5_sailingNumbered 15 = .ok (.getfield 23, 3) := by decide +kernel
theorem dX5_sailingNumbered_18 : decode cX5_sailingNumbered 18 = .ok (.iload_n 1, 1) := by decide +kernel
theorem dX5_sailingNumbered_19 : decode cX5_sailingNumbered 19 = .ok (.aaload, 1) := by decide +kernel
theorem dX5_sailingNumbered_20 : decode cX5_sailingNumbered 20 = .ok (.goto 4, 3) := by decide +kernel
theorem dX5_sailingNumbered_23 : decode cX5_sailingNumbered 23 = .ok (.aconst_null, 1) := by decide +kernel
theorem dX5_sailingNumbered_24 : decode cX5_sailingNumbered 24 = .ok (.areturn, 1) := by decide +kernel
set_option maxRecDepth 20000 in
theorem ggX5_ticketNumbered_X5_within : GoodIn wsX5_ticketNumbered wsX5_within := goodIn_r _ [6] (by decide +kernel) (by decide +kernel)
set_option maxRecDepth 20000 in
theorem gX5_ticketNumbered_X5_within : GoodIn wsX5_ticketNumbered (va_wsS RX5 47 yX5_within wsX5_within) := goodIn_app (goodIn_of _ (by decide +kernel)) ggX5_ticketNumbered_X5_within
theorem dX5_ticketNumbered_0 : decode cX5_ticketNumbered 0 = .ok (.iload_n 1, 1) := by decide +kernel
theorem dX5_ticketNumbered_1 : decode cX5_ticketNumbered 1 = .ok (.iconst 0, 1) := by decide +kernel
theorem dX5_ticketNumbered_2 : decode cX5_ticketNumbered 2 = .ok (.aload_n 0, 1) := by decide +kernel
theorem dX5_ticketNumbered_3 : decode cX5_ticketNumbered 3 = .ok (.getfield 100, 3) := by decide +kernel
theorem dX5_ticketNumbered_6 : decode cX5_ticketNumbered 6 = .ok (.iconst 1, 1) := by decide +kernel
theorem dX5_ticketNumbered_7 : decode cX5_ticketNumbered 7 = .ok (.isub, 1) := by decide +kernel
theorem dX5_ticketNumbered_8 : decode cX5_ticketNumbered 8 = .ok (.invokestatic 47, 3) := by decide +kernel
theorem dX5_ticketNumbered_11 : decode cX5_ticketNumbered 11 = .ok (.ifCond .eq 12, 3) := by decide +kernel
theorem dX5_ticketNumbered_14 : decode cX5_ticketNumbered 14 = .ok (.aload_n 0, 1) := by decide +kernel
theorem dX5_ticketNumbered_15 : decode cX5_ticketNumbered 15 = .ok (.getfield 29, 3) := by decide +kernel
theorem dX5_ticketNumbered_18 : decode cX5_ticketNumbered 18 = .ok (.iload_n 1, 1) := by decide +kernel
theorem dX5_ticketNumbered_19 : decode cX5_ticketNumbered 19 = .ok (.aaload, 1) := by decide +kernel
theorem dX5_ticketNumbered_20 : decode cX5_ticketNumbered 20 = .ok (.goto 4, 3) := by decide +kernel
theorem dX5_ticketNumbered_23 : decode cX5_ticketNumbered 23 = .ok (.aconst_null, 1) := by decide +kernel
theorem dX5_ticketNumbered_24 : decode cX5_ticketNumbered 24 = .ok (.areturn, 1) := by decide +kernel
theorem dX6_init_0 : decode cX6_init 0 = .ok (.aload_n 0, 1) := by decide +kernel
theorem dX6_init_1 : decode cX6_init 1 = .ok (.invokespecial 1, 3) := by decide +kernel
theorem dX6_init_4 : decode cX6_init 4 = .ok (.aload_n 0, 1) := by decide +kernel
theorem dX6_init_5 : decode cX6_init 5 = .ok (.bipush 12, 2) := by decide +kernel
theorem dX6_init_7 : decode cX6_init 7 = .ok (.newarray .int, 2) := by decide +kernel
theorem dX6_init_9 : decode cX6_init 9 = .ok (.putfield 7, 3) := by decide +kernel
theorem dX6_init_12 : decode cX6_init 12 = .ok (.aload_n 0, 1) := by decide +kernel
theorem dX6_init_13 : decode cX6_init 13 = .ok (.bipush 12, 2) := by decide +kernel
theorem dX6_init_15 : decode cX6_init 15 = .ok (.newarray .int, 2) := by decide +kernel
theorem dX6_init_17 : decode cX6_init 17 = .ok (.putfield 13, 3) := by decide +kernel
theorem dX6_init_20 : decode cX6_init 20 = .ok (.aload_n 0, 1) := by decide +kernel
theorem dX6_init_21 : decode cX6_init 21 = .ok (.bipush 12, 2) := by decide +kernel
theorem dX6_init_23 : decode cX6_init 23 = .ok (.newarray .int, 2) := by decide +kernel
theorem dX6_init_25 : decode cX6_init 25 = .ok (.putfield 16, 3) := by decide +kernel
theorem dX6_init_28 : decode cX6_init 28 = .ok (.aload_n 0, 1) := by decide +kernel
theorem dX6_init_29 : decode cX6_init 29 = .ok (.bipush 12, 2) := by decide +kernel
theorem dX6_init_31 : decode cX6_init 31 = .ok (.newarray .boolean, 2) := by decide +kernel
theorem dX6_init_33 : decode cX6_init 33 = .ok (.putfield 19, 3) := by decide +kernel
theorem dX6_init_36 : decode cX6_init 36 = .ok (.aload_n 0, 1) := by decide +kernel
theorem dX6_init_37 : decode cX6_init 37 = .ok (.bipush 120, 2) := by decide +kernel
theorem dX6_init_39 : decode cX6_init 39 = .ok (.newarray .int, 2) := by decide +kernel
theorem dX6_init_41 : decode cX6_init 41 = .ok (.putfield 23, 3) := by decide +kernel
theorem dX6_init_44 : decode cX6_init 44 = .ok (.aload_n 0, 1) := by decide +kernel
theorem dX6_init_45 : decode cX6_init 45 = .ok (.bipush 120, 2) := by decide +kernel
theorem dX6_init_47 : decode cX6_init 47 = .ok (.newarray .int, 2) := by decide +kernel
theorem dX6_init_49 : decode cX6_init 49 = .ok (.putfield 26, 3) := by decide +kernel
theorem dX6_init_52 : decode cX6_init 52 = .ok (.aload_n 0, 1) := by decide +kernel
theorem dX6_init_53 : decode cX6_init 53 = .ok (.bipush 60, 2) := by decide +kernel
theorem dX6_init_55 : decode cX6_init 55 = .ok (.newarray .int, 2) := by decide +kernel
theorem dX6_init_57 : decode cX6_init 57 = .ok (.putfield 29, 3) := by decide +kernel
theorem dX6_init_60 : decode cX6_init 60 = .ok (.aload_n 0, 1) := by decide +kernel
theorem dX6_init_61 : decode cX6_init 61 = .ok (.bipush 60, 2) := by decide +kernel
theorem dX6_init_63 : decode cX6_init 63 = .ok (.newarray .int, 2) := by decide +kernel
theorem dX6_init_65 : decode cX6_init 65 = .ok (.putfield 32, 3) := by decide +kernel
theorem dX6_init_68 : decode cX6_init 68 = .ok (.aload_n 0, 1) := by decide +kernel
theorem dX6_init_69 : decode cX6_init 69 = .ok (.bipush 60, 2) := by decide +kernel
theorem dX6_init_71 : decode cX6_init 71 = .ok (.newarray .int, 2) := by decide +kernel
theorem dX6_init_73 : decode cX6_init 73 = .ok (.putfield 35, 3) := by decide +kernel
theorem dX6_init_76 : decode cX6_init 76 = .ok (.aload_n 0, 1) := by decide +kernel
theorem dX6_init_77 : decode cX6_init 77 = .ok (.bipush 60, 2) := by decide +kernel
theorem dX6_init_79 : decode cX6_init 79 = .ok (.newarray .int, 2) := by decide +kernel
theorem dX6_init_81 : decode cX6_init 81 = .ok (.putfield 38, 3) := by decide +kernel
theorem dX6_init_84 : decode cX6_init 84 = .ok (.aload_n 0, 1) := by decide +kernel
theorem dX6_init_85 : decode cX6_init 85 = .ok (.bipush 60, 2) := by decide +kernel
theorem dX6_init_87 : decode cX6_init 87 = .ok (.newarray .int, 2) := by decide +kernel
theorem dX6_init_89 : decode cX6_init 89 = .ok (.putfield 41, 3) := by decide +kernel
theorem dX6_init_92 : decode cX6_init 92 = .ok (.aload_n 0, 1) := by decide +kernel
theorem dX6_init_93 : decode cX6_init 93 = .ok (.bipush 60, 2) := by decide +kernel
theorem dX6_init_95 : decode cX6_init 95 = .ok (.newarray .int, 2) := by decide +kernel
theorem dX6_init_97 : decode cX6_init 97 = .ok (.putfield 44, 3) := by decide +kernel
theorem dX6_init_100 : decode cX6_init 100 = .ok (.aload_n 0, 1) := by decide +kernel
theorem dX6_init_101 : decode cX6_init 101 = .ok (.bipush 60, 2) := by decide +kernel
theorem dX6_init_103 : decode cX6_init 103 = .ok (.newarray .int, 2) := by decide +kernel
theorem dX6_init_105 : decode cX6_init 105 = .ok (.putfield 47, 3) := by decide +kernel
theorem dX6_init_108 : decode cX6_init 108 = .ok (.aload_n 0, 1) := by decide +kernel
theorem dX6_init_109 : decode cX6_init 109 = .ok (.bipush 60, 2) := by decide +kernel
theorem dX6_init_111 : decode cX6_init 111 = .ok (.newarray .int, 2) := by decide +kernel
theorem dX6_init_113 : decode cX6_init 113 = .ok (.putfield 50, 3) := by decide +kernel
theorem dX6_init_116 : decode cX6_init 116 = .ok (.aload_n 0, 1) := by decide +kernel
theorem dX6_init_117 : decode cX6_init 117 = .ok (.bipush 60, 2) := by decide +kernel
theorem dX6_init_119 : decode cX6_init 119 = .ok (.newarray .boolean, 2) := by decide +kernel
theorem dX6_init_121 : decode cX6_init 121 = .ok (.putfield 53, 3) := by decide +kernel
theorem dX6_init_124 : decode cX6_init 124 = .ok (.aload_n 0, 1) := by decide +kernel
theorem dX6_init_125 : decode cX6_init 125 = .ok (.sipush 5200, 3) := by decide +kernel
theorem dX6_init_128 : decode cX6_init 128 = .ok (.newarray .int, 2) := by decide +kernel
theorem dX6_init_130 : decode cX6_init 130 = .ok (.putfield 56, 3) := by decide +kernel
theorem dX6_init_133 : decode cX6_init 133 = .ok (.aload_n 0, 1) := by decide +kernel
theorem dX6_init_134 : decode cX6_init 134 = .ok (.sipush 400, 3) := by decide +kernel
theorem dX6_init_137 : decode cX6_init 137 = .ok (.newarray .int, 2) := by decide +kernel
theorem dX6_init_139 : decode cX6_init 139 = .ok (.putfield 59, 3) := by decide +kernel
theorem dX6_init_142 : decode cX6_init 142 = .ok (.aload_n 0, 1) := by decide +kernel
theorem dX6_init_143 : decode cX6_init 143 = .ok (.sipush 3000, 3) := by decide +kernel
theorem dX6_init_146 : decode cX6_init 146 = .ok (.newarray .int, 2) := by decide +kernel
theorem dX6_init_148 : decode cX6_init 148 = .ok (.putfield 62, 3) := by decide +kernel
theorem dX6_init_151 : decode cX6_init 151 = .ok (.aload_n 0, 1) := by decide +kernel
theorem dX6_init_152 : decode cX6_init 152 = .ok (.sipush 3000, 3) := by decide +kernel
theorem dX6_init_155 : decode cX6_init 155 = .ok (.newarray .int, 2) := by decide +kernel
theorem dX6_init_157 : decode cX6_init 157 = .ok (.putfield 65, 3) := by decide +kernel
theorem dX6_init_160 : decode cX6_init 160 = .ok (.aload_n 0, 1) := by decide +kernel
theorem dX6_init_161 : decode cX6_init 161 = .ok (.sipush 3000, 3) := by decide +kernel
theorem dX6_init_164 : decode cX6_init 164 = .ok (.newarray .int, 2) := by decide +kernel
theorem dX6_init_166 : decode cX6_init 166 = .ok (.putfield 68, 3) := by decide +kernel
theorem dX6_init_169 : decode cX6_init 169 = .ok (.aload_n 0, 1) := by decide +kernel
theorem dX6_init_170 : decode cX6_init 170 = .ok (.sipush 2000, 3) := by decide +kernel
theorem dX6_init_173 : decode cX6_init 173 = .ok (.newarray .boolean, 2) := by decide +kernel
theorem dX6_init_175 : decode cX6_init 175 = .ok (.putfield 71, 3) := by decide +kernel
theorem dX6_init_178 : decode cX6_init 178 = .ok (.return_, 1) := by decide +kernel
theorem dX6_isIn_0 : decode cX6_isIn 0 = .ok (.iload_n 0, 1) := by decide +kernel
theorem dX6_isIn_1 : decode cX6_isIn 1 = .ok (.iload_n 1, 1) := by decide +kernel
theorem dX6_isIn_2 : decode cX6_isIn 2 = .ok (.if_icmp .lt 12, 3) := by decide +kernel
theorem dX6_isIn_5 : decode cX6_isIn 5 = .ok (.iload_n 0, 1) := by decide +kernel
theorem dX6_isIn_6 : decode cX6_isIn 6 = .ok (.iload_n 2, 1) := by decide +kernel
theorem dX6_isIn_7 : decode cX6_isIn 7 = .ok (.if_icmp .gt 7, 3) := by decide +kernel
theorem dX6_isIn_10 : decode cX6_isIn 10 = .ok (.iconst 1, 1) := by decide +kernel
theorem dX6_isIn_11 : decode cX6_isIn 11 = .ok (.goto 4, 3) := by decide +kernel
theorem dX6_isIn_14 : decode cX6_isIn 14 = .ok (.iconst 0, 1) := by decide +kernel
theorem dX6_isIn_15 : decode cX6_isIn 15 = .ok (.ireturn, 1) := by decide +kernel
theorem dX6_of_0 : decode cX6_of 0 = .ok (.aload_n 0, 1) := by decide +kernel
theorem dX6_of_1 : decode cX6_of 1 = .ok (.getfield 56, 3) := by decide +kernel
theorem dX6_of_4 : decode cX6_of 4 = .ok (.bipush 13, 2) := by decide +kernel
theorem dX6_of_6 : decode cX6_of 6 = .ok (.iload_n 1, 1) := by decide +kernel
theorem dX6_of_7 : decode cX6_of 7 = .ok (.imul, 1) := by decide +kernel
theorem dX6_of_8 : decode cX6_of 8 = .ok (.iload_n 2, 1) := by decide +kernel
theorem dX6_of_9 : decode cX6_of 9 = .ok (.iadd, 1) := by decide +kernel
theorem dX6_of_10 : decode cX6_of 10 = .ok (.iaload, 1) := by decide +kernel
theorem dX6_of_11 : decode cX6_of 11 = .ok (.ireturn, 1) := by decide +kernel
theorem dX6_put_0 : decode cX6_put 0 = .ok (.aload_n 0, 1) := by decide +kernel
theorem dX6_put_1 : decode cX6_put 1 = .ok (.getfield 56, 3) := by decide +kernel
theorem dX6_put_4 : decode cX6_put 4 = .ok (.bipush 13, 2) := by decide +kernel
theorem dX6_put_6 : decode cX6_put 6 = .ok (.iload_n 1, 1) := by decide +kernel
theorem dX6_put_7 : decode cX6_put 7 = .ok (.imul, 1) := by decide +kernel
theorem dX6_put_8 : decode cX6_put 8 = .ok (.iload_n 2, 1) := by decide +kernel
theorem dX6_put_9 : decode cX6_put 9 = .ok (.iadd, 1) := by decide +kernel
theorem dX6_put_10 : decode cX6_put 10 = .ok (.iload_n 3, 1) := by decide +kernel
theorem dX6_put_11 : decode cX6_put 11 = .ok (.iastore, 1) := by decide +kernel
theorem dX6_put_12 : decode cX6_put 12 = .ok (.return_, 1) := by decide +kernel
theorem dX6_isTicket_0 : decode cX6_isTicket 0 = .ok (.iload_n 1, 1) := by decide +kernel
theorem dX6_isTicket_1 : decode cX6_isTicket 1 = .ok (.ifCond .lt 15, 3) := by decide +kernel
theorem dX6_isTicket_4 : decode cX6_isTicket 4 = .ok (.iload_n 1, 1) := by decide +kernel
theorem dX6_isTicket_5 : decode cX6_isTicket 5 = .ok (.aload_n 0, 1) := by decide +kernel
theorem dX6_isTicket_6 : decode cX6_isTicket 6 = .ok (.getfield 74, 3) := by decide +kernel
theorem dX6_isTicket_9 : decode cX6_isTicket 9 = .ok (.if_icmp .ge 7, 3) := by decide +kernel
theorem dX6_isTicket_12 : decode cX6_isTicket 12 = .ok (.iconst 1, 1) := by decide +kernel
theorem dX6_isTicket_13 : decode cX6_isTicket 13 = .ok (.goto 4, 3) := by decide +kernel
theorem dX6_isTicket_16 : decode cX6_isTicket 16 = .ok (.iconst 0, 1) := by decide +kernel
theorem dX6_isTicket_17 : decode cX6_isTicket 17 = .ok (.ireturn, 1) := by decide +kernel
theorem dX6_isSailing_0 : decode cX6_isSailing 0 = .ok (.iload_n 1, 1) := by decide +kernel
theorem dX6_isSailing_1 : decode cX6_isSailing 1 = .ok (.ifCond .lt 15, 3) := by decide +kernel
theorem dX6_isSailing_4 : decode cX6_isSailing 4 = .ok (.iload_n 1, 1) := by decide +kernel
theorem dX6_isSailing_5 : decode cX6_isSailing 5 = .ok (.aload_n 0, 1) := by decide +kernel
theorem dX6_isSailing_6 : decode cX6_isSailing 6 = .ok (.getfield 78, 3) := by decide +kernel
theorem dX6_isSailing_9 : decode cX6_isSailing 9 = .ok (.if_icmp .ge 7, 3) := by decide +kernel
theorem dX6_isSailing_12 : decode cX6_isSailing 12 = .ok (.iconst 1, 1) := by decide +kernel
theorem dX6_isSailing_13 : decode cX6_isSailing 13 = .ok (.goto 4, 3) := by decide +kernel
theorem dX6_isSailing_16 : decode cX6_isSailing 16 = .ok (.iconst 0, 1) := by decide +kernel
theorem dX6_isSailing_17 : decode cX6_isSailing 17 = .ok (.ireturn, 1) := by decide +kernel
theorem dX6_isShip_0 : decode cX6_isShip 0 = .ok (.iload_n 1, 1) := by decide +kernel
theorem dX6_isShip_1 : decode cX6_isShip 1 = .ok (.ifCond .lt 15, 3) := by decide +kernel
theorem dX6_isShip_4 : decode cX6_isShip 4 = .ok (.iload_n 1, 1) := by decide +kernel
theorem dX6_isShip_5 : decode cX6_isShip 5 = .ok (.aload_n 0, 1) := by decide +kernel
theorem dX6_isShip_6 : decode cX6_isShip 6 = .ok (.getfield 81, 3) := by decide +kernel
theorem dX6_isShip_9 : decode cX6_isShip 9 = .ok (.if_icmp .ge 7, 3) := by decide +kernel
theorem dX6_isShip_12 : decode cX6_isShip 12 = .ok (.iconst 1, 1) := by decide +kernel
theorem dX6_isShip_13 : decode cX6_isShip 13 = .ok (.goto 4, 3) := by decide +kernel
theorem dX6_isShip_16 : decode cX6_isShip 16 = .ok (.iconst 0, 1) := by decide +kernel
theorem dX6_isShip_17 : decode cX6_isShip 17 = .ok (.ireturn, 1) := by decide +kernel
set_option maxRecDepth 20000 in
theorem ggX6_ship_X6_isIn : GoodIn wsX6_ship wsX6_isIn := goodIn_r _ [9] (by decide +kernel) (by decide +kernel)
set_option maxRecDepth 20000 in
theorem gX6_ship_X6_isIn : GoodIn wsX6_ship (va_wsS RX6 84 yX6_isIn wsX6_isIn) := goodIn_app (goodIn_of _ (by decide +kernel)) ggX6_ship_X6_isIn
theorem dX6_ship_0 : decode cX6_ship 0 = .ok (.iload_n 1, 1) := by decide +kernel
theorem dX6_ship_1 : decode cX6_ship 1 = .ok (.iconst 1, 1) := by decide +kernel
theorem dX6_ship_2 : decode cX6_ship 2 = .ok (.iconst 4, 1) := by decide +kernel
theorem dX6_ship_3 : decode cX6_ship 3 = .ok (.invokestatic 84, 3) := by decide +kernel
theorem dX6_ship_6 : decode cX6_ship 6 = .ok (.ifCond .eq 49, 3) := by decide +kernel
theorem dX6_ship_9 : decode cX6_ship 9 = .ok (.iload_n 2, 1) := by decide +kernel
theorem dX6_ship_10 : decode cX6_ship 10 = .ok (.iconst 1, 1) := by decide +kernel
theorem dX6_ship_11 : decode cX6_ship 11 = .ok (.bipush 6, 2) := by decide +kernel
theorem dX6_ship_13 : decode cX6_ship 13 = .ok (.invokestatic 84, 3) := by decide +kernel
theorem dX6_ship_16 : decode cX6_ship 16 = .ok (.ifCond .eq 39, 3) := by decide +kernel
theorem dX6_ship_19 : decode cX6_ship 19 = .ok (.iload_n 3, 1) := by decide +kernel
theorem dX6_ship_20 : decode cX6_ship 20 = .ok (.bipush 50, 2) := by decide +kernel
theorem dX6_ship_22 : decode cX6_ship 22 = .ok (.sipush 2000, 3) := by decide +kernel
theorem dX6_ship_25 : decode cX6_ship 25 = .ok (.invokestatic 84, 3) := by decide +kernel
theorem dX6_ship_28 : decode cX6_ship 28 = .ok (.ifCond .eq 27, 3) := by decide +kernel
theorem dX6_ship_31 : decode cX6_ship 31 = .ok (.iload 4, 2) := by decide +kernel
theorem dX6_ship_33 : decode cX6_ship 33 = .ok (.ifCond .eq 13, 3) := by decide +kernel
theorem dX6_ship_36 : decode cX6_ship 36 = .ok (.iload_n 1, 1) := by decide +kernel
theorem dX6_ship_37 : decode cX6_ship 37 = .ok (.iconst 2, 1) := by decide +kernel
theorem dX6_ship_38 : decode cX6_ship 38 = .ok (.if_icmp .lt 17, 3) := by decide +kernel
theorem dX6_ship_41 : decode cX6_ship 41 = .ok (.iload_n 2, 1) := by decide +kernel
theorem dX6_ship_42 : decode cX6_ship 42 = .ok (.iconst 2, 1) := by decide +kernel
theorem dX6_ship_43 : decode cX6_ship 43 = .ok (.if_icmp .lt 12, 3) := by decide +kernel
theorem dX6_ship_46 : decode cX6_ship 46 = .ok (.aload_n 0, 1) := by decide +kernel
theorem dX6_ship_47 : decode cX6_ship 47 = .ok (.getfield 81, 3) := by decide +kernel
theorem dX6_ship_50 : decode cX6_ship 50 = .ok (.bipush 12, 2) := by decide +kernel
theorem dX6_ship_52 : decode cX6_ship 52 = .ok (.if_icmp .ne 5, 3) := by decide +kernel
theorem dX6_ship_55 : decode cX6_ship 55 = .ok (.iconst (-1), 1) := by decide +kernel
theorem dX6_ship_56 : decode cX6_ship 56 = .ok (.ireturn, 1) := by decide +kernel
theorem dX6_ship_57 : decode cX6_ship 57 = .ok (.aload_n 0, 1) := by decide +kernel
theorem dX6_ship_58 : decode cX6_ship 58 = .ok (.getfield 7, 3) := by decide +kernel
theorem dX6_ship_61 : decode cX6_ship 61 = .ok (.aload_n 0, 1) := by decide +kernel
theorem dX6_ship_62 : decode cX6_ship 62 = .ok (.getfield 81, 3) := by decide +kernel
theorem dX6_ship_65 : decode cX6_ship 65 = .ok (.iload_n 1, 1) := by decide +kernel
theorem dX6_ship_66 : decode cX6_ship 66 = .ok (.iastore, 1) := by decide +kernel
theorem dX6_ship_67 : decode cX6_ship 67 = .ok (.aload_n 0, 1) := by decide +kernel
theorem dX6_ship_68 : decode cX6_ship 68 = .ok (.getfield 13, 3) := by decide +kernel
theorem dX6_ship_71 : decode cX6_ship 71 = .ok (.aload_n 0, 1) := by decide +kernel
theorem dX6_ship_72 : decode cX6_ship 72 = .ok (.getfield 81, 3) := by decide +kernel
theorem dX6_ship_75 : decode cX6_ship 75 = .ok (.iload_n 2, 1) := by decide +kernel
theorem dX6_ship_76 : decode cX6_ship 76 = .ok (.iastore, 1) := by decide +kernel
theorem dX6_ship_77 : decode cX6_ship 77 = .ok (.aload_n 0, 1) := by decide +kernel
theorem dX6_ship_78 : decode cX6_ship 78 = .ok (.getfield 16, 3) := by decide +kernel
theorem dX6_ship_81 : decode cX6_ship 81 = .ok (.aload_n 0, 1) := by decide +kernel
theorem dX6_ship_82 : decode cX6_ship 82 = .ok (.getfield 81, 3) := by decide +kernel
theorem dX6_ship_85 : decode cX6_ship 85 = .ok (.iload_n 3, 1) := by decide +kernel
theorem dX6_ship_86 : decode cX6_ship 86 = .ok (.iastore, 1) := by decide +kernel
theorem dX6_ship_87 : decode cX6_ship 87 = .ok (.aload_n 0, 1) := by decide +kernel
theorem dX6_ship_88 : decode cX6_ship 88 = .ok (.getfield 19, 3) := by decide +kernel
theorem dX6_ship_91 : decode cX6_ship 91 = .ok (.aload_n 0, 1) := by decide +kernel
theorem dX6_ship_92 : decode cX6_ship 92 = .ok (.getfield 81, 3) := by decide +kernel
theorem dX6_ship_95 : decode cX6_ship 95 = .ok (.iload 4, 2) := by decide +kernel
theorem dX6_ship_97 : decode cX6_ship 97 = .ok (.bastore, 1) := by decide +kernel
theorem dX6_ship_98 : decode cX6_ship 98 = .ok (.aload_n 0, 1) := by decide +kernel
theorem dX6_ship_99 : decode cX6_ship 99 = .ok (.dup, 1) := by decide +kernel
theorem dX6_ship_100 : decode cX6_ship 100 = .ok (.getfield 81, 3) := by decide +kernel
theorem dX6_ship_103 : decode cX6_ship 103 = .ok (.iconst 1, 1) := by decide +kernel
theorem dX6_ship_104 : decode cX6_ship 104 = .ok (.iadd, 1) := by decide +kernel
theorem dX6_ship_105 : decode cX6_ship 105 = .ok (.putfield 81, 3) := by decide +kernel
theorem dX6_ship_108 : decode cX6_ship 108 = .ok (.aload_n 0, 1) := by decide +kernel
theorem dX6_ship_109 : decode cX6_ship 109 = .ok (.getfield 81, 3) := by decide +kernel
theorem dX6_ship_112 : decode cX6_ship 112 = .ok (.iconst 1, 1) := by decide +kernel
theorem dX6_ship_113 : decode cX6_ship 113 = .ok (.isub, 1) := by decide +kernel
theorem dX6_ship_114 : decode cX6_ship 114 = .ok (.ireturn, 1) := by decide +kernel
set_option maxRecDepth 20000 in
theorem ggX6_cabin_X6_isShip : GoodIn wsX6_cabin wsX6_isShip := goodIn_r _ [8, 9, 13, 14, 15, 16, 17, 18, 19, 20, 21, 22, 23, 24, 25, 26, 27, 28, 29, 30, 31, 32, 33, 34, 35, 36, 37, 38, 39, 40, 41, 42, 43] (by decide +kernel) (by decide +kernel)
set_option maxRecDepth 20000 in
theorem gX6_cabin_X6_isShip : GoodIn wsX6_cabin (wsV RX6 88 RX6 yX6_isShip wsX6_isShip) := goodIn_app (goodIn_of _ (by decide +kernel)) ggX6_cabin_X6_isShip
set_option maxRecDepth 20000 in
theorem ggX6_cabin_X6_isIn : GoodIn wsX6_cabin wsX6_isIn := goodIn_r _ [12] (by decide +kernel) (by decide +kernel)
set_option maxRecDepth 20000 in
theorem gX6_cabin_X6_isIn : GoodIn wsX6_cabin (va_wsS RX6 84 yX6_isIn wsX6_isIn) := goodIn_app (goodIn_of _ (by decide +kernel)) ggX6_cabin_X6_isIn
theorem dX6_cabin_0 : decode cX6_cabin 0 = .ok (.aload_n 0, 1) := by decide +kernel
theorem dX6_cabin_1 : decode cX6_cabin 1 = .ok (.iload_n 1, 1) := by decide +kernel
theorem dX6_cabin_2 : decode cX6_cabin 2 = .ok (.invokevirtual 88, 3) := by decide +kernel
theorem dX6_cabin_5 : decode cX6_cabin 5 = .ok (.ifCond .eq 22, 3) := by decide +kernel
theorem dX6_cabin_8 : decode cX6_cabin 8 = .ok (.iload_n 2, 1) := by decide +kernel
theorem dX6_cabin_9 : decode cX6_cabin 9 = .ok (.iconst 1, 1) := by decide +kernel
theorem dX6_cabin_10 : decode cX6_cabin 10 = .ok (.bipush 6, 2) := by decide +kernel
theorem dX6_cabin_12 : decode cX6_cabin 12 = .ok (.invokestatic 84, 3) := by decide +kernel
theorem dX6_cabin_15 : decode cX6_cabin 15 = .ok (.ifCond .eq 12, 3) := by decide +kernel
theorem dX6_cabin_18 : decode cX6_cabin 18 = .ok (.aload_n 0, 1) := by decide +kernel
theorem dX6_cabin_19 : decode cX6_cabin 19 = .ok (.getfield 92, 3) := by decide +kernel
theorem dX6_cabin_22 : decode cX6_cabin 22 = .ok (.bipush 120, 2) := by decide +kernel
theorem dX6_cabin_24 : decode cX6_cabin 24 = .ok (.if_icmp .ne 5, 3) := by decide +kernel
theorem dX6_cabin_27 : decode cX6_cabin 27 = .ok (.iconst (-1), 1) := by decide +kernel
theorem dX6_cabin_28 : decode cX6_cabin 28 = .ok (.ireturn, 1) := by decide +kernel
theorem dX6_cabin_29 : decode cX6_cabin 29 = .ok (.aload_n 0, 1) := by decide +kernel
theorem dX6_cabin_30 : decode cX6_cabin 30 = .ok (.getfield 23, 3) := by decide +kernel
theorem dX6_cabin_33 : decode cX6_cabin 33 = .ok (.aload_n 0, 1) := by decide +kernel
theorem dX6_cabin_34 : decode cX6_cabin 34 = .ok (.getfield 92, 3) := by decide +kernel
theorem dX6_cabin_37 : decode cX6_cabin 37 = .ok (.iload_n 1, 1) := by decide +kernel
theorem dX6_cabin_38 : decode cX6_cabin 38 = .ok (.iastore, 1) := by decide +kernel
theorem dX6_cabin_39 : decode cX6_cabin 39 = .ok (.aload_n 0, 1) := by decide +kernel
theorem dX6_cabin_40 : decode cX6_cabin 40 = .ok (.getfield 26, 3) := by decide +kernel
theorem dX6_cabin_43 : decode cX6_cabin 43 = .ok (.aload_n 0, 1) := by decide +kernel
theorem dX6_cabin_44 : decode cX6_cabin 44 = .ok (.getfield 92, 3) := by decide +kernel
theorem dX6_cabin_47 : decode cX6_cabin 47 = .ok (.iload_n 2, 1) := by decide +kernel
theorem dX6_cabin_48 : decode cX6_cabin 48 = .ok (.iastore, 1) := by decide +kernel
theorem dX6_cabin_49 : decode cX6_cabin 49 = .ok (.aload_n 0, 1) := by decide +kernel
theorem dX6_cabin_50 : decode cX6_cabin 50 = .ok (.dup, 1) := by decide +kernel
theorem dX6_cabin_51 : decode cX6_cabin 51 = .ok (.getfield 92, 3) := by decide +kernel
theorem dX6_cabin_54 : decode cX6_cabin 54 = .ok (.iconst 1, 1) := by decide +kernel
theorem dX6_cabin_55 : decode cX6_cabin 55 = .ok (.iadd, 1) := by decide +kernel
theorem dX6_cabin_56 : decode cX6_cabin 56 = .ok (.putfield 92, 3) := by decide +kernel
theorem dX6_cabin_59 : decode cX6_cabin 59 = .ok (.aload_n 0, 1) := by decide +kernel
theorem dX6_cabin_60 : decode cX6_cabin 60 = .ok (.getfield 92, 3) := by decide +kernel
theorem dX6_cabin_63 : decode cX6_cabin 63 = .ok (.iconst 1, 1) := by decide +kernel
theorem dX6_cabin_64 : decode cX6_cabin 64 = .ok (.isub, 1) := by decide +kernel
theorem dX6_cabin_65 : decode cX6_cabin 65 = .ok (.ireturn, 1) := by decide +kernel
set_option maxRecDepth 20000 in
theorem ggX6_sailing_X6_isShip : GoodIn wsX6_sailing wsX6_isShip := goodIn_r _ [17, 18, 22, 23, 24, 25, 26, 27, 28, 29, 30, 31, 32, 33, 34, 35, 36, 37, 38, 39, 40, 41, 42, 43, 44, 45, 46, 47, 48, 49, 50, 51, 52] (by decide +kernel) (by decide +kernel)
set_option maxRecDepth 20000 in
theorem gX6_sailing_X6_isShip : GoodIn wsX6_sailing (wsV RX6 88 RX6 yX6_isShip wsX6_isShip) := goodIn_app (goodIn_of _ (by decide +kernel)) ggX6_sailing_X6_isShip
set_option maxRecDepth 20000 in
theorem ggX6_sailing_X6_isIn : GoodIn wsX6_sailing wsX6_isIn := goodIn_r _ [21] (by decide +kernel) (by decide +kernel)
set_option maxRecDepth 20000 in
theorem gX6_sailing_X6_isIn : GoodIn wsX6_sailing (va_wsS RX6 84 yX6_isIn wsX6_isIn) := goodIn_app (goodIn_of _ (by decide +kernel)) ggX6_sailing_X6_isIn
theorem dX6_sailing_0 : decode cX6_sailing 0 = .ok (.aload_n 0, 1) := by decide +kernel
theorem dX6_sailing_1 : decode cX6_sailing 1 = .ok (.iload_n 1, 1) := by decide +kernel
theorem dX6_sailing_2 : decode cX6_sailing 2 = .ok (.invokevirtual 88, 3) := by decide +kernel
theorem dX6_sailing_5 : decode cX6_sailing 5 = .ok (.ifCond .eq 32, 3) := by decide +kernel
theorem dX6_sailing_8 : decode cX6_sailing 8 = .ok (.iload_n 2, 1) := by decide +kernel
theorem dX6_sailing_9 : decode cX6_sailing 9 = .ok (.iconst 0, 1) := by decide +kernel
theorem dX6_sailing_10 : decode cX6_sailing 10 = .ok (.ldc 95, 2) := by decide +kernel
theorem dX6_sailing_12 : decode cX6_sailing 12 = .ok (.invokestatic 84, 3) := by decide +kernel
theorem dX6_sailing_15 : decode cX6_sailing 15 = .ok (.ifCond .eq 22, 3) := by decide +kernel
theorem dX6_sailing_18 : decode cX6_sailing 18 = .ok (.iload_n 3, 1) := by decide +kernel
theorem dX6_sailing_19 : decode cX6_sailing 19 = .ok (.iconst 0, 1) := by decide +kernel
theorem dX6_sailing_20 : decode cX6_sailing 20 = .ok (.bipush 7, 2) := by decide +kernel
theorem dX6_sailing_22 : decode cX6_sailing 22 = .ok (.invokestatic 84, 3) := by decide +kernel
theorem dX6_sailing_25 : decode cX6_sailing 25 = .ok (.ifCond .eq 12, 3) := by decide +kernel
theorem dX6_sailing_28 : decode cX6_sailing 28 = .ok (.aload_n 0, 1) := by decide +kernel
theorem dX6_sailing_29 : decode cX6_sailing 29 = .ok (.getfield 78, 3) := by decide +kernel
theorem dX6_sailing_32 : decode cX6_sailing 32 = .ok (.bipush 60, 2) := by decide +kernel
theorem dX6_sailing_34 : decode cX6_sailing 34 = .ok (.if_icmp .ne 5, 3) := by decide +kernel
theorem dX6_sailing_37 : decode cX6_sailing 37 = .ok (.iconst (-1), 1) := by decide +kernel
theorem dX6_sailing_38 : decode cX6_sailing 38 = .ok (.ireturn, 1) := by decide +kernel
theorem dX6_sailing_39 : decode cX6_sailing 39 = .ok (.iconst 0, 1) := by decide +kernel
theorem dX6_sailing_40 : decode cX6_sailing 40 = .ok (.istore 4, 2) := by decide +kernel
theorem dX6_sailing_42 : decode cX6_sailing 42 = .ok (.iload 4, 2) := by decide +kernel
theorem dX6_sailing_44 : decode cX6_sailing 44 = .ok (.aload_n 0, 1) := by decide +kernel
theorem dX6_sailing_45 : decode cX6_sailing 45 = .ok (.getfield 78, 3) := by decide +kernel
theorem dX6_sailing_48 : decode cX6_sailing 48 = .ok (.if_icmp .ge 50, 3) := by decide +kernel
theorem dX6_sailing_51 : decode cX6_sailing 51 = .ok (.aload_n 0, 1) := by decide +kernel
theorem dX6_sailing_52 : decode cX6_sailing 52 = .ok (.getfield 29, 3) := by decide +kernel
theorem dX6_sailing_55 : decode cX6_sailing 55 = .ok (.iload 4, 2) := by decide +kernel
theorem dX6_sailing_57 : decode cX6_sailing 57 = .ok (.iaload, 1) := by decide +kernel
theorem dX6_sailing_58 : decode cX6_sailing 58 = .ok (.iload_n 1, 1) := by decide +kernel
theorem dX6_sailing_59 : decode cX6_sailing 59 = .ok (.if_icmp .ne 33, 3) := by decide +kernel
theorem dX6_sailing_62 : decode cX6_sailing 62 = .ok (.aload_n 0, 1) := by decide +kernel
theorem dX6_sailing_63 : decode cX6_sailing 63 = .ok (.getfield 38, 3) := by decide +kernel
theorem dX6_sailing_66 : decode cX6_sailing 66 = .ok (.iload 4, 2) := by decide +kernel
theorem dX6_sailing_68 : decode cX6_sailing 68 = .ok (.iaload, 1) := by decide +kernel
theorem dX6_sailing_69 : decode cX6_sailing 69 = .ok (.iconst 3, 1) := by decide +kernel
theorem dX6_sailing_70 : decode cX6_sailing 70 = .ok (.if_icmp .eq 22, 3) := by decide +kernel
theorem dX6_sailing_73 : decode cX6_sailing 73 = .ok (.aload_n 0, 1) := by decide +kernel
theorem dX6_sailing_74 : decode cX6_sailing 74 = .ok (.getfield 32, 3) := by decide +kernel
theorem dX6_sailing_77 : decode cX6_sailing 77 = .ok (.iload 4, 2) := by decide +kernel
theorem dX6_sailing_79 : decode cX6_sailing 79 = .ok (.iaload, 1) := by decide +kernel
theorem dX6_sailing_80 : decode cX6_sailing 80 = .ok (.iload_n 2, 1) := by decide +kernel
theorem dX6_sailing_81 : decode cX6_sailing 81 = .ok (.isub, 1) := by decide +kernel
theorem dX6_sailing_82 : decode cX6_sailing 82 = .ok (.invokestatic 96, 3) := by decide +kernel
theorem dX6_sailing_85 : decode cX6_sailing 85 = .ok (.bipush 90, 2) := by decide +kernel
theorem dX6_sailing_87 : decode cX6_sailing 87 = .ok (.if_icmp .ge 5, 3) := by decide +kernel
theorem dX6_sailing_90 : decode cX6_sailing 90 = .ok (.iconst (-1), 1) := by decide +kernel
theorem dX6_sailing_91 : decode cX6_sailing 91 = .ok (.ireturn, 1) := by decide +kernel
theorem dX6_sailing_92 : decode cX6_sailing 92 = .ok (.iinc 4 1, 3) := by decide +kernel
theorem dX6_sailing_95 : decode cX6_sailing 95 = .ok (.goto (-53), 3) := by decide +kernel
theorem dX6_sailing_98 : decode cX6_sailing 98 = .ok (.aload_n 0, 1) := by decide +kernel
theorem dX6_sailing_99 : decode cX6_sailing 99 = .ok (.getfield 78, 3) := by decide +kernel
theorem dX6_sailing_102 : decode cX6_sailing 102 = .ok (.istore 4, 2) := by decide +kernel
theorem dX6_sailing_104 : decode cX6_sailing 104 = .ok (.aload_n 0, 1) := by decide +kernel
theorem dX6_sailing_105 : decode cX6_sailing 105 = .ok (.dup, 1) := by decide +kernel
theorem dX6_sailing_106 : decode cX6_sailing 106 = .ok (.getfield 78, 3) := by decide +kernel
theorem dX6_sailing_109 : decode cX6_sailing 109 = .ok (.iconst 1, 1) := by decide +kernel
theorem dX6_sailing_110 : decode cX6_sailing 110 = .ok (.iadd, 1) := by decide +kernel
theorem dX6_sailing_111 : decode cX6_sailing 111 = .ok (.putfield 78, 3) := by decide +kernel
theorem dX6_sailing_114 : decode cX6_sailing 114 = .ok (.aload_n 0, 1) := by decide +kernel
theorem dX6_sailing_115 : decode cX6_sailing 115 = .ok (.getfield 29, 3) := by decide +kernel
theorem dX6_sailing_118 : decode cX6_sailing 118 = .ok (.iload 4, 2) := by decide +kernel
theorem dX6_sailing_120 : decode cX6_sailing 120 = .ok (.iload_n 1, 1) := by decide +kernel
theorem dX6_sailing_121 : decode cX6_sailing 121 = .ok (.iastore, 1) := by decide +kernel
theorem dX6_sailing_122 : decode cX6_sailing 122 = .ok (.aload_n 0, 1) := by decide +kernel
theorem dX6_sailing_123 : decode cX6_sailing 123 = .ok (.getfield 32, 3) := by decide +kernel
theorem dX6_sailing_126 : decode cX6_sailing 126 = .ok (.iload 4, 2) := by decide +kernel
theorem dX6_sailing_128 : decode cX6_sailing 128 = .ok (.iload_n 2, 1) := by decide +kernel
theorem dX6_sailing_129 : decode cX6_sailing 129 = .ok (.iastore, 1) := by decide +kernel
theorem dX6_sailing_130 : decode cX6_sailing 130 = .ok (.aload_n 0, 1) := by decide +kernel
theorem dX6_sailing_131 : decode cX6_sailing 131 = .ok (.getfield 35, 3) := by decide +kernel
theorem dX6_sailing_134 : decode cX6_sailing 134 = .ok (.iload 4, 2) := by decide +kernel
theorem dX6_sailing_136 : decode cX6_sailing 136 = .ok (.iload_n 3, 1) := by decide +kernel
theorem dX6_sailing_137 : decode cX6_sailing 137 = .ok (.iastore, 1) := by decide +kernel
theorem dX6_sailing_138 : decode cX6_sailing 138 = .ok (.aload_n 0, 1) := by decide +kernel
theorem dX6_sailing_139 : decode cX6_sailing 139 = .ok (.getfield 44, 3) := by decide +kernel
theorem dX6_sailing_142 : decode cX6_sailing 142 = .ok (.iload 4, 2) := by decide +kernel
theorem dX6_sailing_144 : decode cX6_sailing 144 = .ok (.iconst (-1), 1) := by decide +kernel
theorem dX6_sailing_145 : decode cX6_sailing 145 = .ok (.iastore, 1) := by decide +kernel
theorem dX6_sailing_146 : decode cX6_sailing 146 = .ok (.aload_n 0, 1) := by decide +kernel
theorem dX6_sailing_147 : decode cX6_sailing 147 = .ok (.getfield 47, 3) := by decide +kernel
theorem dX6_sailing_150 : decode cX6_sailing 150 = .ok (.iload 4, 2) := by decide +kernel
theorem dX6_sailing_152 : decode cX6_sailing 152 = .ok (.iconst (-1), 1) := by decide +kernel
theorem dX6_sailing_153 : decode cX6_sailing 153 = .ok (.iastore, 1) := by decide +kernel
theorem dX6_sailing_154 : decode cX6_sailing 154 = .ok (.iload 4, 2) := by decide +kernel
theorem dX6_sailing_156 : decode cX6_sailing 156 = .ok (.ireturn, 1) := by decide +kernel
theorem dX6_isToGo_0 : decode cX6_isToGo 0 = .ok (.aload_n 0, 1) := by decide +kernel
theorem dX6_isToGo_1 : decode cX6_isToGo 1 = .ok (.getfield 38, 3) := by decide +kernel
theorem dX6_isToGo_4 : decode cX6_isToGo 4 = .ok (.iload_n 1, 1) := by decide +kernel
theorem dX6_isToGo_5 : decode cX6_isToGo 5 = .ok (.iaload, 1) := by decide +kernel
theorem dX6_isToGo_6 : decode cX6_isToGo 6 = .ok (.ifCond .eq 13, 3) := by decide +kernel
theorem dX6_isToGo_9 : decode cX6_isToGo 9 = .ok (.aload_n 0, 1) := by decide +kernel
theorem dX6_isToGo_10 : decode cX6_isToGo 10 = .ok (.getfield 38, 3) := by decide +kernel
theorem dX6_isToGo_13 : decode cX6_isToGo 13 = .ok (.iload_n 1, 1) := by decide +kernel
theorem dX6_isToGo_14 : decode cX6_isToGo 14 = .ok (.iaload, 1) := by decide +kernel
theorem dX6_isToGo_15 : decode cX6_isToGo 15 = .ok (.iconst 1, 1) := by decide +kernel
theorem dX6_isToGo_16 : decode cX6_isToGo 16 = .ok (.if_icmp .ne 7, 3) := by decide +kernel
theorem dX6_isToGo_19 : decode cX6_isToGo 19 = .ok (.iconst 1, 1) := by decide +kernel
theorem dX6_isToGo_20 : decode cX6_isToGo 20 = .ok (.goto 4, 3) := by decide +kernel
theorem dX6_isToGo_23 : decode cX6_isToGo 23 = .ok (.iconst 0, 1) := by decide +kernel
theorem dX6_isToGo_24 : decode cX6_isToGo 24 = .ok (.ireturn, 1) := by decide +kernel
set_option maxRecDepth 20000 in
theorem ggX6_book_X6_isSailing : GoodIn wsX6_book wsX6_isSailing := goodIn_r _ [10, 11, 25, 26, 27, 28, 29, 30, 31, 32, 33, 34, 35, 36, 37, 38, 39, 40, 41, 42, 43, 44, 45, 46, 47, 48, 49, 50, 51, 52, 53, 54, 55] (by decide +kernel) (by decide +kernel)
set_option maxRecDepth 20000 in
theorem gX6_book_X6_isSailing : GoodIn wsX6_book (wsV RX6 102 RX6 yX6_isSailing wsX6_isSailing) := goodIn_app (goodIn_of _ (by decide +kernel)) ggX6_book_X6_isSailing
set_option maxRecDepth 20000 in
theorem ggX6_book_X6_isIn : GoodIn wsX6_book wsX6_isIn := goodIn_r _ [14] (by decide +kernel) (by decide +kernel)
set_option maxRecDepth 20000 in
theorem gX6_book_X6_isIn : GoodIn wsX6_book (va_wsS RX6 84 yX6_isIn wsX6_isIn) := goodIn_app (goodIn_of _ (by decide +kernel)) ggX6_book_X6_isIn
set_option maxRecDepth 20000 in
theorem ggX6_book_X6_isToGo : GoodIn wsX6_book wsX6_isToGo := goodIn_r _ [18, 19, 25, 26, 27, 28, 29, 30, 31, 32, 33, 34, 35, 36, 37, 38, 39, 40, 41, 42, 43, 44, 45, 46, 47, 48, 49, 50, 51, 52, 53, 54, 55] (by decide +kernel) (by decide +kernel)
set_option maxRecDepth 20000 in
theorem gX6_book_X6_isToGo : GoodIn wsX6_book (wsV RX6 105 RX6 yX6_isToGo wsX6_isToGo) := goodIn_app (goodIn_of _ (by decide +kernel)) ggX6_book_X6_isToGo
set_option maxRecDepth 20000 in
theorem ggX6_book_X6_put : GoodIn wsX6_book wsX6_put := goodIn_r _ [23, 24, 25, 26, 27, 28, 29, 30, 31, 32, 33, 34, 35, 36, 37, 38, 39, 40, 41, 42, 43, 44, 45, 46, 47, 48, 49, 50, 51, 52, 53, 54, 55] (by decide +kernel) (by decide +kernel)
set_option maxRecDepth 20000 in
theorem gX6_book_X6_put : GoodIn wsX6_book (wsV RX6 108 RX6 yX6_put wsX6_put) := goodIn_app (goodIn_of _ (by decide +kernel)) ggX6_book_X6_put
theorem dX6_book_0 : decode cX6_book 0 = .ok (.aload_n 0, 1) := by decide +kernel
theorem dX6_book_1 : decode cX6_book 1 = .ok (.iload_n 1, 1) := by decide +kernel
theorem dX6_book_2 : decode cX6_book 2 = .ok (.invokevirtual 102, 3) := by decide +kernel
theorem dX6_book_5 : decode cX6_book 5 = .ok (.ifCond .eq 78, 3) := by decide +kernel
theorem dX6_book_8 : decode cX6_book 8 = .ok (.iload_n 2, 1) := by decide +kernel
theorem dX6_book_9 : decode cX6_book 9 = .ok (.bipush 20, 2) := by decide +kernel
theorem dX6_book_11 : decode cX6_book 11 = .ok (.sipush 250, 3) := by decide +kernel
theorem dX6_book_14 : decode cX6_book 14 = .ok (.invokestatic 84, 3) := by decide +kernel
theorem dX6_book_17 : decode cX6_book 17 = .ok (.ifCond .eq 66, 3) := by decide +kernel
theorem dX6_book_20 : decode cX6_book 20 = .ok (.iload_n 3, 1) := by decide +kernel
theorem dX6_book_21 : decode cX6_book 21 = .ok (.iconst 0, 1) := by decide +kernel
theorem dX6_book_22 : decode cX6_book 22 = .ok (.iconst 2, 1) := by decide +kernel
theorem dX6_book_23 : decode cX6_book 23 = .ok (.invokestatic 84, 3) := by decide +kernel
theorem dX6_book_26 : decode cX6_book 26 = .ok (.ifCond .eq 57, 3) := by decide +kernel
theorem dX6_book_29 : decode cX6_book 29 = .ok (.iload 4, 2) := by decide +kernel
theorem dX6_book_31 : decode cX6_book 31 = .ok (.iconst 0, 1) := by decide +kernel
theorem dX6_book_32 : decode cX6_book 32 = .ok (.bipush 6, 2) := by decide +kernel
theorem dX6_book_34 : decode cX6_book 34 = .ok (.invokestatic 84, 3) := by decide +kernel
theorem dX6_book_37 : decode cX6_book 37 = .ok (.ifCond .eq 46, 3) := by decide +kernel
theorem dX6_book_40 : decode cX6_book 40 = .ok (.aload_n 0, 1) := by decide +kernel
theorem dX6_book_41 : decode cX6_book 41 = .ok (.iload_n 1, 1) := by decide +kernel
theorem dX6_book_42 : decode cX6_book 42 = .ok (.invokevirtual 105, 3) := by decide +kernel
theorem dX6_book_45 : decode cX6_book 45 = .ok (.ifCond .eq 38, 3) := by decide +kernel
theorem dX6_book_48 : decode cX6_book 48 = .ok (.aload_n 0, 1) := by decide +kernel
theorem dX6_book_49 : decode cX6_book 49 = .ok (.getfield 44, 3) := by decide +kernel
theorem dX6_book_52 : decode cX6_book 52 = .ok (.iload_n 1, 1) := by decide +kernel
theorem dX6_book_53 : decode cX6_book 53 = .ok (.iaload, 1) := by decide +kernel
theorem dX6_book_54 : decode cX6_book 54 = .ok (.iconst (-1), 1) := by decide +kernel
theorem dX6_book_55 : decode cX6_book 55 = .ok (.if_icmp .ne 28, 3) := by decide +kernel
theorem dX6_book_58 : decode cX6_book 58 = .ok (.aload_n 0, 1) := by decide +kernel
theorem dX6_book_59 : decode cX6_book 59 = .ok (.getfield 16, 3) := by decide +kernel
theorem dX6_book_62 : decode cX6_book 62 = .ok (.aload_n 0, 1) := by decide +kernel
theorem dX6_book_63 : decode cX6_book 63 = .ok (.getfield 29, 3) := by decide +kernel
theorem dX6_book_66 : decode cX6_book 66 = .ok (.iload_n 1, 1) := by decide +kernel
theorem dX6_book_67 : decode cX6_book 67 = .ok (.iaload, 1) := by decide +kernel
theorem dX6_book_68 : decode cX6_book 68 = .ok (.iaload, 1) := by decide +kernel
theorem dX6_book_69 : decode cX6_book 69 = .ok (.iload_n 2, 1) := by decide +kernel
theorem dX6_book_70 : decode cX6_book 70 = .ok (.if_icmp .lt 13, 3) := by decide +kernel
theorem dX6_book_73 : decode cX6_book 73 = .ok (.aload_n 0, 1) := by decide +kernel
theorem dX6_book_74 : decode cX6_book 74 = .ok (.getfield 74, 3) := by decide +kernel
theorem dX6_book_77 : decode cX6_book 77 = .ok (.sipush 400, 3) := by decide +kernel
theorem dX6_book_80 : decode cX6_book 80 = .ok (.if_icmp .ne 5, 3) := by decide +kernel
theorem dX6_book_83 : decode cX6_book 83 = .ok (.iconst (-1), 1) := by decide +kernel
theorem dX6_book_84 : decode cX6_book 84 = .ok (.ireturn, 1) := by decide +kernel
theorem dX6_book_85 : decode cX6_book 85 = .ok (.aload_n 0, 1) := by decide +kernel
theorem dX6_book_86 : decode cX6_book 86 = .ok (.getfield 74, 3) := by decide +kernel
theorem dX6_book_89 : decode cX6_book 89 = .ok (.istore 5, 2) := by decide +kernel
theorem dX6_book_91 : decode cX6_book 91 = .ok (.aload_n 0, 1) := by decide +kernel
theorem dX6_book_92 : decode cX6_book 92 = .ok (.dup, 1) := by decide +kernel
theorem dX6_book_93 : decode cX6_book 93 = .ok (.getfield 74, 3) := by decide +kernel
theorem dX6_book_96 : decode cX6_book 96 = .ok (.iconst 1, 1) := by decide +kernel
theorem dX6_book_97 : decode cX6_book 97 = .ok (.iadd, 1) := by decide +kernel
theorem dX6_book_98 : decode cX6_book 98 = .ok (.putfield 74, 3) := by decide +kernel
theorem dX6_book_101 : decode cX6_book 101 = .ok (.sipush 500, 3) := by decide +kernel
theorem dX6_book_104 : decode cX6_book 104 = .ok (.iconst 3, 1) := by decide +kernel
theorem dX6_book_105 : decode cX6_book 105 = .ok (.iload_n 2, 1) := by decide +kernel
theorem dX6_book_106 : decode cX6_book 106 = .ok (.imul, 1) := by decide +kernel
theorem dX6_book_107 : decode cX6_book 107 = .ok (.iadd, 1) := by decide +kernel
theorem dX6_book_108 : decode cX6_book 108 = .ok (.sipush 700, 3) := by decide +kernel
theorem dX6_book_111 : decode cX6_book 111 = .ok (.iload_n 3, 1) := by decide +kernel
theorem dX6_book_112 : decode cX6_book 112 = .ok (.imul, 1) := by decide +kernel
theorem dX6_book_113 : decode cX6_book 113 = .ok (.iadd, 1) := by decide +kernel
theorem dX6_book_114 : decode cX6_book 114 = .ok (.sipush 1500, 3) := by decide +kernel
theorem dX6_book_117 : decode cX6_book 117 = .ok (.iload 4, 2) := by decide +kernel
theorem dX6_book_119 : decode cX6_book 119 = .ok (.imul, 1) := by decide +kernel
theorem dX6_book_120 : decode cX6_book 120 = .ok (.iadd, 1) := by decide +kernel
theorem dX6_book_121 : decode cX6_book 121 = .ok (.istore 6, 2) := by decide +kernel
theorem dX6_book_123 : decode cX6_book 123 = .ok (.iconst 0, 1) := by decide +kernel
theorem dX6_book_124 : decode cX6_book 124 = .ok (.istore 7, 2) := by decide +kernel
theorem dX6_book_126 : decode cX6_book 126 = .ok (.iload 7, 2) := by decide +kernel
theorem dX6_book_128 : decode cX6_book 128 = .ok (.bipush 13, 2) := by decide +kernel
theorem dX6_book_130 : decode cX6_book 130 = .ok (.if_icmp .ge 35, 3) := by decide +kernel
theorem dX6_book_133 : decode cX6_book 133 = .ok (.aload_n 0, 1) := by decide +kernel
theorem dX6_book_134 : decode cX6_book 134 = .ok (.iload 5, 2) := by decide +kernel
theorem dX6_book_136 : decode cX6_book 136 = .ok (.iload 7, 2) := by decide +kernel
theorem dX6_book_138 : decode cX6_book 138 = .ok (.iload 7, 2) := by decide +kernel
theorem dX6_book_140 : decode cX6_book 140 = .ok (.iconst 5, 1) := by decide +kernel
theorem dX6_book_141 : decode cX6_book 141 = .ok (.if_icmp .lt 14, 3) := by decide +kernel
theorem dX6_book_144 : decode cX6_book 144 = .ok (.iload 7, 2) := by decide +kernel
theorem dX6_book_146 : decode cX6_book 146 = .ok (.bipush 9, 2) := by decide +kernel
theorem dX6_book_148 : decode cX6_book 148 = .ok (.if_icmp .gt 7, 3) := by decide +kernel
theorem dX6_book_151 : decode cX6_book 151 = .ok (.iconst (-1), 1) := by decide +kernel
theorem dX6_book_152 : decode cX6_book 152 = .ok (.goto 4, 3) := by decide +kernel
theorem dX6_book_155 : decode cX6_book 155 = .ok (.iconst 0, 1) := by decide +kernel
theorem dX6_book_156 : decode cX6_book 156 = .ok (.invokevirtual 108, 3) := by decide +kernel
theorem dX6_book_159 : decode cX6_book 159 = .ok (.iinc 7 1, 3) := by decide +kernel
theorem dX6_book_162 : decode cX6_book 162 = .ok (.goto (-36), 3) := by decide +kernel
theorem dX6_book_165 : decode cX6_book 165 = .ok (.aload_n 0, 1) := by decide +kernel
theorem dX6_book_166 : decode cX6_book 166 = .ok (.iload 5, 2) := by decide +kernel
theorem dX6_book_168 : decode cX6_book 168 = .ok (.iconst 0, 1) := by decide +kernel
theorem dX6_book_169 : decode cX6_book 169 = .ok (.iload_n 1, 1) := by decide +kernel
theorem dX6_book_170 : decode cX6_book 170 = .ok (.invokevirtual 108, 3) := by decide +kernel
theorem dX6_book_173 : decode cX6_book 173 = .ok (.aload_n 0, 1) := by decide +kernel
theorem dX6_book_174 : decode cX6_book 174 = .ok (.iload 5, 2) := by decide +kernel
theorem dX6_book_176 : decode cX6_book 176 = .ok (.iconst 1, 1) := by decide +kernel
theorem dX6_book_177 : decode cX6_book 177 = .ok (.iload_n 2, 1) := by decide +kernel
theorem dX6_book_178 : decode cX6_book 178 = .ok (.invokevirtual 108, 3) := by decide +kernel
theorem dX6_book_181 : decode cX6_book 181 = .ok (.aload_n 0, 1) := by decide +kernel
theorem dX6_book_182 : decode cX6_book 182 = .ok (.iload 5, 2) := by decide +kernel
theorem dX6_book_184 : decode cX6_book 184 = .ok (.iconst 2, 1) := by decide +kernel
end
section
theorem dX6_book_185 : decode cX6_book 185 = .ok (.iload_n 3, 1) := by decide +kernel
theorem dX6_book_186 : decode cX6_book 186 = .ok (.invokevirtual 108, 3) := by decide +kernel
theorem dX6_book_189 : decode cX6_book 189 = .ok (.aload_n 0, 1) := by decide +kernel
theorem dX6_book_190 : decode cX6_book 190 = .ok (.iload 5, 2) := by decide +kernel
theorem dX6_book_192 : decode cX6_book 192 = .ok (.iconst 3, 1) := by decide +kernel
theorem dX6_book_193 : decode cX6_book 193 = .ok (.iload 4, 2) := by decide +kernel
theorem dX6_book_195 : decode cX6_book 195 = .ok (.invokevirtual 108, 3) := by decide +kernel
theorem dX6_book_198 : decode cX6_book 198 = .ok (.aload_n 0, 1) := by decide +kernel
theorem dX6_book_199 : decode cX6_book 199 = .ok (.iload 5, 2) := by decide +kernel
theorem dX6_book_201 : decode cX6_book 201 = .ok (.bipush 10, 2) := by decide +kernel
theorem dX6_book_203 : decode cX6_book 203 = .ok (.iload 6, 2) := by decide +kernel
theorem dX6_book_205 : decode cX6_book 205 = .ok (.bipush 100, 2) := by decide +kernel
theorem dX6_book_207 : decode cX6_book 207 = .ok (.iconst 5, 1) := by decide +kernel
theorem dX6_book_208 : decode cX6_book 208 = .ok (.aload_n 0, 1) := by decide +kernel
theorem dX6_book_209 : decode cX6_book 209 = .ok (.getfield 35, 3) := by decide +kernel
theorem dX6_book_212 : decode cX6_book 212 = .ok (.iload_n 1, 1) := by decide +kernel
theorem dX6_book_213 : decode cX6_book 213 = .ok (.iaload, 1) := by decide +kernel
theorem dX6_book_214 : decode cX6_book 214 = .ok (.imul, 1) := by decide +kernel
theorem dX6_book_215 : decode cX6_book 215 = .ok (.iadd, 1) := by decide +kernel
theorem dX6_book_216 : decode cX6_book 216 = .ok (.imul, 1) := by decide +kernel
theorem dX6_book_217 : decode cX6_book 217 = .ok (.bipush 50, 2) := by decide +kernel
theorem dX6_book_219 : decode cX6_book 219 = .ok (.iadd, 1) := by decide +kernel
theorem dX6_book_220 : decode cX6_book 220 = .ok (.bipush 100, 2) := by decide +kernel
theorem dX6_book_222 : decode cX6_book 222 = .ok (.idiv, 1) := by decide +kernel
theorem dX6_book_223 : decode cX6_book 223 = .ok (.invokevirtual 108, 3) := by decide +kernel
theorem dX6_book_226 : decode cX6_book 226 = .ok (.iload 5, 2) := by decide +kernel
theorem dX6_book_228 : decode cX6_book 228 = .ok (.ireturn, 1) := by decide +kernel
set_option maxRecDepth 20000 in
theorem ggX6_arrive_X6_isTicket : GoodIn wsX6_arrive wsX6_isTicket := goodIn_r _ [6, 7, 25, 26, 27, 28, 29, 30, 31, 32, 33, 34, 35, 36, 37, 38, 39, 40, 41, 42, 43, 44, 45, 46, 47, 48, 49, 50, 51, 52, 53, 54, 55] (by decide +kernel) (by decide +kernel)
set_option maxRecDepth 20000 in
theorem gX6_arrive_X6_isTicket : GoodIn wsX6_arrive (wsV RX6 112 RX6 yX6_isTicket wsX6_isTicket) := goodIn_app (goodIn_of _ (by decide +kernel)) ggX6_arrive_X6_isTicket
set_option maxRecDepth 20000 in
theorem ggX6_arrive_X6_of : GoodIn wsX6_arrive wsX6_of := goodIn_r _ [11, 12, 25, 26, 27, 28, 29, 30, 31, 32, 33, 34, 35, 36, 37, 38, 39, 40, 41, 42, 43, 44, 45, 46, 47, 48, 49, 50, 51, 52, 53, 54, 55] (by decide +kernel) (by decide +kernel)
set_option maxRecDepth 20000 in
theorem gX6_arrive_X6_of : GoodIn wsX6_arrive (wsV RX6 115 RX6 yX6_of wsX6_of) := goodIn_app (goodIn_of _ (by decide +kernel)) ggX6_arrive_X6_of
set_option maxRecDepth 20000 in
theorem ggX6_arrive_X6_isIn : GoodIn wsX6_arrive wsX6_isIn := goodIn_r _ [15] (by decide +kernel) (by decide +kernel)
set_option maxRecDepth 20000 in
theorem gX6_arrive_X6_isIn : GoodIn wsX6_arrive (va_wsS RX6 84 yX6_isIn wsX6_isIn) := goodIn_app (goodIn_of _ (by decide +kernel)) ggX6_arrive_X6_isIn
set_option maxRecDepth 20000 in
theorem ggX6_arrive_X6_isToGo : GoodIn wsX6_arrive wsX6_isToGo := goodIn_r _ [19, 20, 25, 26, 27, 28, 29, 30, 31, 32, 33, 34, 35, 36, 37, 38, 39, 40, 41, 42, 43, 44, 45, 46, 47, 48, 49, 50, 51, 52, 53, 54, 55] (by decide +kernel) (by decide +kernel)
set_option maxRecDepth 20000 in
theorem gX6_arrive_X6_isToGo : GoodIn wsX6_arrive (wsV RX6 105 RX6 yX6_isToGo wsX6_isToGo) := goodIn_app (goodIn_of _ (by decide +kernel)) ggX6_arrive_X6_isToGo
set_option maxRecDepth 20000 in
theorem ggX6_arrive_X6_put : GoodIn wsX6_arrive wsX6_put := goodIn_r _ [24, 12, 25, 26, 27, 28, 29, 30, 31, 32, 33, 34, 35, 36, 37, 38, 39, 40, 41, 42, 43, 44, 45, 46, 47, 48, 49, 50, 51, 52, 53, 54, 55] (by decide +kernel) (by decide +kernel)
set_option maxRecDepth 20000 in
theorem gX6_arrive_X6_put : GoodIn wsX6_arrive (wsV RX6 108 RX6 yX6_put wsX6_put) := goodIn_app (goodIn_of _ (by decide +kernel)) ggX6_arrive_X6_put
theorem dX6_arrive_0 : decode cX6_arrive 0 = .ok (.aload_n 0, 1) := by decide +kernel
theorem dX6_arrive_1 : decode cX6_arrive 1 = .ok (.iload_n 1, 1) := by decide +kernel
theorem dX6_arrive_2 : decode cX6_arrive 2 = .ok (.invokevirtual 112, 3) := by decide +kernel
theorem dX6_arrive_5 : decode cX6_arrive 5 = .ok (.ifCond .eq 35, 3) := by decide +kernel
theorem dX6_arrive_8 : decode cX6_arrive 8 = .ok (.aload_n 0, 1) := by decide +kernel
theorem dX6_arrive_9 : decode cX6_arrive 9 = .ok (.iload_n 1, 1) := by decide +kernel
theorem dX6_arrive_10 : decode cX6_arrive 10 = .ok (.iconst 4, 1) := by decide +kernel
theorem dX6_arrive_11 : decode cX6_arrive 11 = .ok (.invokevirtual 115, 3) := by decide +kernel
theorem dX6_arrive_14 : decode cX6_arrive 14 = .ok (.ifCond .ne 26, 3) := by decide +kernel
theorem dX6_arrive_17 : decode cX6_arrive 17 = .ok (.iload_n 2, 1) := by decide +kernel
theorem dX6_arrive_18 : decode cX6_arrive 18 = .ok (.iconst 0, 1) := by decide +kernel
theorem dX6_arrive_19 : decode cX6_arrive 19 = .ok (.ldc 119, 2) := by decide +kernel
theorem dX6_arrive_21 : decode cX6_arrive 21 = .ok (.invokestatic 84, 3) := by decide +kernel
theorem dX6_arrive_24 : decode cX6_arrive 24 = .ok (.ifCond .eq 16, 3) := by decide +kernel
theorem dX6_arrive_27 : decode cX6_arrive 27 = .ok (.aload_n 0, 1) := by decide +kernel
theorem dX6_arrive_28 : decode cX6_arrive 28 = .ok (.aload_n 0, 1) := by decide +kernel
theorem dX6_arrive_29 : decode cX6_arrive 29 = .ok (.iload_n 1, 1) := by decide +kernel
theorem dX6_arrive_30 : decode cX6_arrive 30 = .ok (.iconst 0, 1) := by decide +kernel
theorem dX6_arrive_31 : decode cX6_arrive 31 = .ok (.invokevirtual 115, 3) := by decide +kernel
theorem dX6_arrive_34 : decode cX6_arrive 34 = .ok (.invokevirtual 105, 3) := by decide +kernel
theorem dX6_arrive_37 : decode cX6_arrive 37 = .ok (.ifCond .ne 5, 3) := by decide +kernel
theorem dX6_arrive_40 : decode cX6_arrive 40 = .ok (.iconst 0, 1) := by decide +kernel
theorem dX6_arrive_41 : decode cX6_arrive 41 = .ok (.ireturn, 1) := by decide +kernel
theorem dX6_arrive_42 : decode cX6_arrive 42 = .ok (.aload_n 0, 1) := by decide +kernel
theorem dX6_arrive_43 : decode cX6_arrive 43 = .ok (.iload_n 1, 1) := by decide +kernel
theorem dX6_arrive_44 : decode cX6_arrive 44 = .ok (.iconst 4, 1) := by decide +kernel
theorem dX6_arrive_45 : decode cX6_arrive 45 = .ok (.iconst 1, 1) := by decide +kernel
theorem dX6_arrive_46 : decode cX6_arrive 46 = .ok (.invokevirtual 108, 3) := by decide +kernel
theorem dX6_arrive_49 : decode cX6_arrive 49 = .ok (.aload_n 0, 1) := by decide +kernel
theorem dX6_arrive_50 : decode cX6_arrive 50 = .ok (.iload_n 1, 1) := by decide +kernel
theorem dX6_arrive_51 : decode cX6_arrive 51 = .ok (.iconst 5, 1) := by decide +kernel
theorem dX6_arrive_52 : decode cX6_arrive 52 = .ok (.iload_n 2, 1) := by decide +kernel
theorem dX6_arrive_53 : decode cX6_arrive 53 = .ok (.invokevirtual 108, 3) := by decide +kernel
theorem dX6_arrive_56 : decode cX6_arrive 56 = .ok (.iconst 1, 1) := by decide +kernel
theorem dX6_arrive_57 : decode cX6_arrive 57 = .ok (.ireturn, 1) := by decide +kernel
theorem dX6_openOf_0 : decode cX6_openOf 0 = .ok (.iconst 0, 1) := by decide +kernel
theorem dX6_openOf_1 : decode cX6_openOf 1 = .ok (.istore_n 2, 1) := by decide +kernel
theorem dX6_openOf_2 : decode cX6_openOf 2 = .ok (.iload_n 2, 1) := by decide +kernel
theorem dX6_openOf_3 : decode cX6_openOf 3 = .ok (.aload_n 0, 1) := by decide +kernel
theorem dX6_openOf_4 : decode cX6_openOf 4 = .ok (.getfield 78, 3) := by decide +kernel
theorem dX6_openOf_7 : decode cX6_openOf 7 = .ok (.if_icmp .ge 31, 3) := by decide +kernel
theorem dX6_openOf_10 : decode cX6_openOf 10 = .ok (.aload_n 0, 1) := by decide +kernel
theorem dX6_openOf_11 : decode cX6_openOf 11 = .ok (.getfield 29, 3) := by decide +kernel
theorem dX6_openOf_14 : decode cX6_openOf 14 = .ok (.iload_n 2, 1) := by decide +kernel
theorem dX6_openOf_15 : decode cX6_openOf 15 = .ok (.iaload, 1) := by decide +kernel
theorem dX6_openOf_16 : decode cX6_openOf 16 = .ok (.iload_n 1, 1) := by decide +kernel
theorem dX6_openOf_17 : decode cX6_openOf 17 = .ok (.if_icmp .ne 15, 3) := by decide +kernel
theorem dX6_openOf_20 : decode cX6_openOf 20 = .ok (.aload_n 0, 1) := by decide +kernel
theorem dX6_openOf_21 : decode cX6_openOf 21 = .ok (.getfield 38, 3) := by decide +kernel
theorem dX6_openOf_24 : decode cX6_openOf 24 = .ok (.iload_n 2, 1) := by decide +kernel
theorem dX6_openOf_25 : decode cX6_openOf 25 = .ok (.iaload, 1) := by decide +kernel
theorem dX6_openOf_26 : decode cX6_openOf 26 = .ok (.iconst 1, 1) := by decide +kernel
theorem dX6_openOf_27 : decode cX6_openOf 27 = .ok (.if_icmp .ne 5, 3) := by decide +kernel
theorem dX6_openOf_30 : decode cX6_openOf 30 = .ok (.iload_n 2, 1) := by decide +kernel
theorem dX6_openOf_31 : decode cX6_openOf 31 = .ok (.ireturn, 1) := by decide +kernel
theorem dX6_openOf_32 : decode cX6_openOf 32 = .ok (.iinc 2 1, 3) := by decide +kernel
theorem dX6_openOf_35 : decode cX6_openOf 35 = .ok (.goto (-33), 3) := by decide +kernel
theorem dX6_openOf_38 : decode cX6_openOf 38 = .ok (.iconst (-1), 1) := by decide +kernel
theorem dX6_openOf_39 : decode cX6_openOf 39 = .ok (.ireturn, 1) := by decide +kernel
set_option maxRecDepth 20000 in
theorem ggX6_open_X6_isSailing : GoodIn wsX6_open wsX6_isSailing := goodIn_r _ [7, 8, 13, 14, 15, 16, 17, 18, 19, 20, 21, 22, 23, 24, 25, 26, 27, 28, 29, 30, 31, 32, 33, 34, 35, 36, 37, 38, 39, 40, 41, 42, 43] (by decide +kernel) (by decide +kernel)
set_option maxRecDepth 20000 in
theorem gX6_open_X6_isSailing : GoodIn wsX6_open (wsV RX6 102 RX6 yX6_isSailing wsX6_isSailing) := goodIn_app (goodIn_of _ (by decide +kernel)) ggX6_open_X6_isSailing
set_option maxRecDepth 20000 in
theorem ggX6_open_X6_openOf : GoodIn wsX6_open wsX6_openOf := goodIn_r _ [12, 8, 2, 1, 13, 14, 15, 16, 17, 18, 19, 20, 21, 22, 23, 24, 25, 26, 27, 28, 29, 30, 31, 32, 33, 34, 35, 36, 37, 38, 39, 40, 41, 42, 43] (by decide +kernel) (by decide +kernel)
set_option maxRecDepth 20000 in
theorem gX6_open_X6_openOf : GoodIn wsX6_open (wsV RX6 120 RX6 yX6_openOf wsX6_openOf) := goodIn_app (goodIn_of _ (by decide +kernel)) ggX6_open_X6_openOf
theorem dX6_open_0 : decode cX6_open 0 = .ok (.aload_n 0, 1) := by decide +kernel
theorem dX6_open_1 : decode cX6_open 1 = .ok (.iload_n 1, 1) := by decide +kernel
theorem dX6_open_2 : decode cX6_open 2 = .ok (.invokevirtual 102, 3) := by decide +kernel
theorem dX6_open_5 : decode cX6_open 5 = .ok (.ifCond .eq 26, 3) := by decide +kernel
theorem dX6_open_8 : decode cX6_open 8 = .ok (.aload_n 0, 1) := by decide +kernel
theorem dX6_open_9 : decode cX6_open 9 = .ok (.getfield 38, 3) := by decide +kernel
theorem dX6_open_12 : decode cX6_open 12 = .ok (.iload_n 1, 1) := by decide +kernel
theorem dX6_open_13 : decode cX6_open 13 = .ok (.iaload, 1) := by decide +kernel
theorem dX6_open_14 : decode cX6_open 14 = .ok (.ifCond .ne 17, 3) := by decide +kernel
theorem dX6_open_17 : decode cX6_open 17 = .ok (.aload_n 0, 1) := by decide +kernel
theorem dX6_open_18 : decode cX6_open 18 = .ok (.aload_n 0, 1) := by decide +kernel
theorem dX6_open_19 : decode cX6_open 19 = .ok (.getfield 29, 3) := by decide +kernel
theorem dX6_open_22 : decode cX6_open 22 = .ok (.iload_n 1, 1) := by decide +kernel
theorem dX6_open_23 : decode cX6_open 23 = .ok (.iaload, 1) := by decide +kernel
theorem dX6_open_24 : decode cX6_open 24 = .ok (.invokevirtual 120, 3) := by decide +kernel
theorem dX6_open_27 : decode cX6_open 27 = .ok (.iconst (-1), 1) := by decide +kernel
theorem dX6_open_28 : decode cX6_open 28 = .ok (.if_icmp .eq 5, 3) := by decide +kernel
theorem dX6_open_31 : decode cX6_open 31 = .ok (.iconst 0, 1) := by decide +kernel
theorem dX6_open_32 : decode cX6_open 32 = .ok (.ireturn, 1) := by decide +kernel
theorem dX6_open_33 : decode cX6_open 33 = .ok (.aload_n 0, 1) := by decide +kernel
theorem dX6_open_34 : decode cX6_open 34 = .ok (.getfield 38, 3) := by decide +kernel
theorem dX6_open_37 : decode cX6_open 37 = .ok (.iload_n 1, 1) := by decide +kernel
theorem dX6_open_38 : decode cX6_open 38 = .ok (.iconst 1, 1) := by decide +kernel
theorem dX6_open_39 : decode cX6_open 39 = .ok (.iastore, 1) := by decide +kernel
theorem dX6_open_40 : decode cX6_open 40 = .ok (.iconst 1, 1) := by decide +kernel
theorem dX6_open_41 : decode cX6_open 41 = .ok (.ireturn, 1) := by decide +kernel
set_option maxRecDepth 20000 in
theorem ggX6_recall_X6_isSailing : GoodIn wsX6_recall wsX6_isSailing := goodIn_r _ [7, 8, 51, 52, 53, 54, 55, 56, 57, 58, 59, 60, 61, 62, 63, 64, 65, 66, 67, 68, 69, 70, 71, 72, 73, 74, 75, 76, 77, 78, 79, 80, 81] (by decide +kernel) (by decide +kernel)
set_option maxRecDepth 20000 in
theorem gX6_recall_X6_isSailing : GoodIn wsX6_recall (wsV RX6 102 RX6 yX6_isSailing wsX6_isSailing) := goodIn_app (goodIn_of _ (by decide +kernel)) ggX6_recall_X6_isSailing
set_option maxRecDepth 20000 in
theorem ggX6_recall_X6_isIn : GoodIn wsX6_recall wsX6_isIn := goodIn_r _ [11] (by decide +kernel) (by decide +kernel)
set_option maxRecDepth 20000 in
theorem gX6_recall_X6_isIn : GoodIn wsX6_recall (va_wsS RX6 84 yX6_isIn wsX6_isIn) := goodIn_app (goodIn_of _ (by decide +kernel)) ggX6_recall_X6_isIn
set_option maxRecDepth 20000 in
theorem ggX6_recall_X6_lookAtRecall : GoodIn wsX6_recall wsX6_lookAtRecall := goodIn_r _ [15, 2, 16, 17, 1, 18, 19, 20, 6, 21, 22, 23, 24, 25, 26, 27, 28, 29, 30, 31, 32, 33, 34, 35, 36, 37, 38, 39, 40, 41, 42, 43, 44, 45, 46, 47, 48, 49, 50, 51, 52, 53, 54, 55, 56, 57, 58, 59, 60, 61, 62, 63, 64, 65, 66, 67, 68, 69, 70, 71, 72, 73, 74, 75, 76, 77, 78, 79, 80, 81] (by decide +kernel) (by decide +kernel)
set_option maxRecDepth 20000 in
theorem gX6_recall_X6_lookAtRecall : GoodIn wsX6_recall (wsV RX6 123 RX6 yX6_lookAtRecall wsX6_lookAtRecall) := goodIn_app (goodIn_of _ (by decide +kernel)) ggX6_recall_X6_lookAtRecall
theorem dX6_recall_0 : decode cX6_recall 0 = .ok (.aload_n 0, 1) := by decide +kernel
theorem dX6_recall_1 : decode cX6_recall 1 = .ok (.iload_n 1, 1) := by decide +kernel
theorem dX6_recall_2 : decode cX6_recall 2 = .ok (.invokevirtual 102, 3) := by decide +kernel
theorem dX6_recall_5 : decode cX6_recall 5 = .ok (.ifCond .eq 34, 3) := by decide +kernel
theorem dX6_recall_8 : decode cX6_recall 8 = .ok (.aload_n 0, 1) := by decide +kernel
theorem dX6_recall_9 : decode cX6_recall 9 = .ok (.getfield 38, 3) := by decide +kernel
theorem dX6_recall_12 : decode cX6_recall 12 = .ok (.iload_n 1, 1) := by decide +kernel
theorem dX6_recall_13 : decode cX6_recall 13 = .ok (.iaload, 1) := by decide +kernel
theorem dX6_recall_14 : decode cX6_recall 14 = .ok (.iconst 1, 1) := by decide +kernel
theorem dX6_recall_15 : decode cX6_recall 15 = .ok (.if_icmp .ne 24, 3) := by decide +kernel
theorem dX6_recall_18 : decode cX6_recall 18 = .ok (.aload_n 0, 1) := by decide +kernel
theorem dX6_recall_19 : decode cX6_recall 19 = .ok (.getfield 44, 3) := by decide +kernel
theorem dX6_recall_22 : decode cX6_recall 22 = .ok (.iload_n 1, 1) := by decide +kernel
theorem dX6_recall_23 : decode cX6_recall 23 = .ok (.iaload, 1) := by decide +kernel
theorem dX6_recall_24 : decode cX6_recall 24 = .ok (.iconst (-1), 1) := by decide +kernel
theorem dX6_recall_25 : decode cX6_recall 25 = .ok (.if_icmp .ne 14, 3) := by decide +kernel
theorem dX6_recall_28 : decode cX6_recall 28 = .ok (.iload_n 2, 1) := by decide +kernel
theorem dX6_recall_29 : decode cX6_recall 29 = .ok (.iconst 0, 1) := by decide +kernel
theorem dX6_recall_30 : decode cX6_recall 30 = .ok (.sipush 1000, 3) := by decide +kernel
theorem dX6_recall_33 : decode cX6_recall 33 = .ok (.invokestatic 84, 3) := by decide +kernel
theorem dX6_recall_36 : decode cX6_recall 36 = .ok (.ifCond .ne 5, 3) := by decide +kernel
theorem dX6_recall_39 : decode cX6_recall 39 = .ok (.iconst 0, 1) := by decide +kernel
theorem dX6_recall_40 : decode cX6_recall 40 = .ok (.ireturn, 1) := by decide +kernel
theorem dX6_recall_41 : decode cX6_recall 41 = .ok (.aload_n 0, 1) := by decide +kernel
theorem dX6_recall_42 : decode cX6_recall 42 = .ok (.getfield 44, 3) := by decide +kernel
theorem dX6_recall_45 : decode cX6_recall 45 = .ok (.iload_n 1, 1) := by decide +kernel
theorem dX6_recall_46 : decode cX6_recall 46 = .ok (.iload_n 2, 1) := by decide +kernel
theorem dX6_recall_47 : decode cX6_recall 47 = .ok (.iastore, 1) := by decide +kernel
theorem dX6_recall_48 : decode cX6_recall 48 = .ok (.aload_n 0, 1) := by decide +kernel
theorem dX6_recall_49 : decode cX6_recall 49 = .ok (.iload_n 1, 1) := by decide +kernel
theorem dX6_recall_50 : decode cX6_recall 50 = .ok (.invokevirtual 123, 3) := by decide +kernel
theorem dX6_recall_53 : decode cX6_recall 53 = .ok (.iconst 1, 1) := by decide +kernel
theorem dX6_recall_54 : decode cX6_recall 54 = .ok (.ireturn, 1) := by decide +kernel
set_option maxRecDepth 20000 in
theorem ggX6_lookAtRecall_X6_hasTurn : GoodIn wsX6_lookAtRecall wsX6_hasTurn := goodIn_r _ [9, 10, 11, 12, 8, 13, 14, 4, 2, 15, 3, 16, 17, 18, 19, 20, 21, 22, 23, 24, 25, 26, 27, 28, 29, 30, 31, 32, 33, 34, 35, 36, 37, 38, 39, 40, 41, 42, 43, 44, 45, 46, 47, 48, 49, 50, 51, 52, 53, 54, 55, 56, 57, 58, 59, 60, 61, 62, 63, 64, 65, 66, 67, 68, 69] (by decide +kernel) (by decide +kernel)
set_option maxRecDepth 20000 in
theorem gX6_lookAtRecall_X6_hasTurn : GoodIn wsX6_lookAtRecall (wsV RX6 127 RX6 yX6_hasTurn wsX6_hasTurn) := goodIn_app (goodIn_of _ (by decide +kernel)) ggX6_lookAtRecall_X6_hasTurn
theorem dX6_lookAtRecall_0 : decode cX6_lookAtRecall 0 = .ok (.aload_n 0, 1) := by decide +kernel
theorem dX6_lookAtRecall_1 : decode cX6_lookAtRecall 1 = .ok (.getfield 44, 3) := by decide +kernel
theorem dX6_lookAtRecall_4 : decode cX6_lookAtRecall 4 = .ok (.iload_n 1, 1) := by decide +kernel
theorem dX6_lookAtRecall_5 : decode cX6_lookAtRecall 5 = .ok (.iaload, 1) := by decide +kernel
theorem dX6_lookAtRecall_6 : decode cX6_lookAtRecall 6 = .ok (.iconst (-1), 1) := by decide +kernel
theorem dX6_lookAtRecall_7 : decode cX6_lookAtRecall 7 = .ok (.if_icmp .ne 4, 3) := by decide +kernel
theorem dX6_lookAtRecall_10 : decode cX6_lookAtRecall 10 = .ok (.return_, 1) := by decide +kernel
theorem dX6_lookAtRecall_11 : decode cX6_lookAtRecall 11 = .ok (.aload_n 0, 1) := by decide +kernel
theorem dX6_lookAtRecall_12 : decode cX6_lookAtRecall 12 = .ok (.getfield 53, 3) := by decide +kernel
theorem dX6_lookAtRecall_15 : decode cX6_lookAtRecall 15 = .ok (.iload_n 1, 1) := by decide +kernel
theorem dX6_lookAtRecall_16 : decode cX6_lookAtRecall 16 = .ok (.baload, 1) := by decide +kernel
theorem dX6_lookAtRecall_17 : decode cX6_lookAtRecall 17 = .ok (.ifCond .ne 41, 3) := by decide +kernel
theorem dX6_lookAtRecall_20 : decode cX6_lookAtRecall 20 = .ok (.aload_n 0, 1) := by decide +kernel
theorem dX6_lookAtRecall_21 : decode cX6_lookAtRecall 21 = .ok (.getfield 44, 3) := by decide +kernel
theorem dX6_lookAtRecall_24 : decode cX6_lookAtRecall 24 = .ok (.iload_n 1, 1) := by decide +kernel
theorem dX6_lookAtRecall_25 : decode cX6_lookAtRecall 25 = .ok (.iaload, 1) := by decide +kernel
theorem dX6_lookAtRecall_26 : decode cX6_lookAtRecall 26 = .ok (.ifCond .eq 11, 3) := by decide +kernel
theorem dX6_lookAtRecall_29 : decode cX6_lookAtRecall 29 = .ok (.aload_n 0, 1) := by decide +kernel
theorem dX6_lookAtRecall_30 : decode cX6_lookAtRecall 30 = .ok (.iload_n 1, 1) := by decide +kernel
theorem dX6_lookAtRecall_31 : decode cX6_lookAtRecall 31 = .ok (.invokevirtual 127, 3) := by decide +kernel
theorem dX6_lookAtRecall_34 : decode cX6_lookAtRecall 34 = .ok (.ifCond .ne 24, 3) := by decide +kernel
theorem dX6_lookAtRecall_37 : decode cX6_lookAtRecall 37 = .ok (.aload_n 0, 1) := by decide +kernel
theorem dX6_lookAtRecall_38 : decode cX6_lookAtRecall 38 = .ok (.getfield 53, 3) := by decide +kernel
theorem dX6_lookAtRecall_41 : decode cX6_lookAtRecall 41 = .ok (.iload_n 1, 1) := by decide +kernel
theorem dX6_lookAtRecall_42 : decode cX6_lookAtRecall 42 = .ok (.iconst 1, 1) := by decide +kernel
theorem dX6_lookAtRecall_43 : decode cX6_lookAtRecall 43 = .ok (.bastore, 1) := by decide +kernel
theorem dX6_lookAtRecall_44 : decode cX6_lookAtRecall 44 = .ok (.aload_n 0, 1) := by decide +kernel
theorem dX6_lookAtRecall_45 : decode cX6_lookAtRecall 45 = .ok (.getfield 44, 3) := by decide +kernel
theorem dX6_lookAtRecall_48 : decode cX6_lookAtRecall 48 = .ok (.iload_n 1, 1) := by decide +kernel
theorem dX6_lookAtRecall_49 : decode cX6_lookAtRecall 49 = .ok (.iconst 0, 1) := by decide +kernel
theorem dX6_lookAtRecall_50 : decode cX6_lookAtRecall 50 = .ok (.iastore, 1) := by decide +kernel
theorem dX6_lookAtRecall_51 : decode cX6_lookAtRecall 51 = .ok (.aload_n 0, 1) := by decide +kernel
theorem dX6_lookAtRecall_52 : decode cX6_lookAtRecall 52 = .ok (.getfield 47, 3) := by decide +kernel
theorem dX6_lookAtRecall_55 : decode cX6_lookAtRecall 55 = .ok (.iload_n 1, 1) := by decide +kernel
theorem dX6_lookAtRecall_56 : decode cX6_lookAtRecall 56 = .ok (.iconst (-1), 1) := by decide +kernel
theorem dX6_lookAtRecall_57 : decode cX6_lookAtRecall 57 = .ok (.iastore, 1) := by decide +kernel
theorem dX6_lookAtRecall_58 : decode cX6_lookAtRecall 58 = .ok (.aload_n 0, 1) := by decide +kernel
theorem dX6_lookAtRecall_59 : decode cX6_lookAtRecall 59 = .ok (.getfield 53, 3) := by decide +kernel
theorem dX6_lookAtRecall_62 : decode cX6_lookAtRecall 62 = .ok (.iload_n 1, 1) := by decide +kernel
theorem dX6_lookAtRecall_63 : decode cX6_lookAtRecall 63 = .ok (.baload, 1) := by decide +kernel
theorem dX6_lookAtRecall_64 : decode cX6_lookAtRecall 64 = .ok (.ifCond .eq 18, 3) := by decide +kernel
theorem dX6_lookAtRecall_67 : decode cX6_lookAtRecall 67 = .ok (.aload_n 0, 1) := by decide +kernel
theorem dX6_lookAtRecall_68 : decode cX6_lookAtRecall 68 = .ok (.iload_n 1, 1) := by decide +kernel
theorem dX6_lookAtRecall_69 : decode cX6_lookAtRecall 69 = .ok (.invokevirtual 127, 3) := by decide +kernel
theorem dX6_lookAtRecall_72 : decode cX6_lookAtRecall 72 = .ok (.ifCond .ne 10, 3) := by decide +kernel
theorem dX6_lookAtRecall_75 : decode cX6_lookAtRecall 75 = .ok (.aload_n 0, 1) := by decide +kernel
theorem dX6_lookAtRecall_76 : decode cX6_lookAtRecall 76 = .ok (.getfield 38, 3) := by decide +kernel
theorem dX6_lookAtRecall_79 : decode cX6_lookAtRecall 79 = .ok (.iload_n 1, 1) := by decide +kernel
theorem dX6_lookAtRecall_80 : decode cX6_lookAtRecall 80 = .ok (.iconst 3, 1) := by decide +kernel
theorem dX6_lookAtRecall_81 : decode cX6_lookAtRecall 81 = .ok (.iastore, 1) := by decide +kernel
theorem dX6_lookAtRecall_82 : decode cX6_lookAtRecall 82 = .ok (.return_, 1) := by decide +kernel
set_option maxRecDepth 20000 in
theorem ggX6_isAboard_X6_of : GoodIn wsX6_isAboard wsX6_of := goodIn_r _ [5, 6, 7, 8, 9, 10, 11, 12, 13, 14, 15, 16, 17, 18, 19, 20, 21, 22, 23, 24, 25, 26, 27, 28, 29, 30, 31, 32, 33, 34, 35, 36, 37] (by decide +kernel) (by decide +kernel)
set_option maxRecDepth 20000 in
theorem gX6_isAboard_X6_of : GoodIn wsX6_isAboard (wsV RX6 115 RX6 yX6_of wsX6_of) := goodIn_app (goodIn_of _ (by decide +kernel)) ggX6_isAboard_X6_of
theorem dX6_isAboard_0 : decode cX6_isAboard 0 = .ok (.aload_n 0, 1) := by decide +kernel
theorem dX6_isAboard_1 : decode cX6_isAboard 1 = .ok (.iload_n 1, 1) := by decide +kernel
theorem dX6_isAboard_2 : decode cX6_isAboard 2 = .ok (.iconst 0, 1) := by decide +kernel
theorem dX6_isAboard_3 : decode cX6_isAboard 3 = .ok (.invokevirtual 115, 3) := by decide +kernel
theorem dX6_isAboard_6 : decode cX6_isAboard 6 = .ok (.iload_n 2, 1) := by decide +kernel
theorem dX6_isAboard_7 : decode cX6_isAboard 7 = .ok (.if_icmp .ne 17, 3) := by decide +kernel
theorem dX6_isAboard_10 : decode cX6_isAboard 10 = .ok (.aload_n 0, 1) := by decide +kernel
theorem dX6_isAboard_11 : decode cX6_isAboard 11 = .ok (.iload_n 1, 1) := by decide +kernel
theorem dX6_isAboard_12 : decode cX6_isAboard 12 = .ok (.iconst 4, 1) := by decide +kernel
theorem dX6_isAboard_13 : decode cX6_isAboard 13 = .ok (.invokevirtual 115, 3) := by decide +kernel
theorem dX6_isAboard_16 : decode cX6_isAboard 16 = .ok (.iconst 3, 1) := by decide +kernel
theorem dX6_isAboard_17 : decode cX6_isAboard 17 = .ok (.if_icmp .ne 7, 3) := by decide +kernel
theorem dX6_isAboard_20 : decode cX6_isAboard 20 = .ok (.iconst 1, 1) := by decide +kernel
theorem dX6_isAboard_21 : decode cX6_isAboard 21 = .ok (.goto 4, 3) := by decide +kernel
theorem dX6_isAboard_24 : decode cX6_isAboard 24 = .ok (.iconst 0, 1) := by decide +kernel
theorem dX6_isAboard_25 : decode cX6_isAboard 25 = .ok (.ireturn, 1) := by decide +kernel
set_option maxRecDepth 20000 in
theorem ggX6_covers_X6_isAboard : GoodIn wsX6_covers wsX6_isAboard := goodIn_r _ [6, 7, 8, 9, 5, 10, 11, 12, 13, 14, 15, 16, 17, 18, 19, 20, 21, 22, 23, 24, 25, 26, 27, 28, 29, 30, 31, 32, 33, 34, 35, 36, 37, 38, 39, 40, 41, 42] (by decide +kernel) (by decide +kernel)
set_option maxRecDepth 20000 in
theorem gX6_covers_X6_isAboard : GoodIn wsX6_covers (wsV RX6 130 RX6 yX6_isAboard wsX6_isAboard) := goodIn_app (goodIn_of _ (by decide +kernel)) ggX6_covers_X6_isAboard
set_option maxRecDepth 20000 in
theorem ggX6_covers_X6_of : GoodIn wsX6_covers wsX6_of := goodIn_r _ [10, 11, 12, 13, 14, 15, 16, 17, 18, 19, 20, 21, 22, 23, 24, 25, 26, 27, 28, 29, 30, 31, 32, 33, 34, 35, 36, 37, 38, 39, 40, 41, 42] (by decide +kernel) (by decide +kernel)
set_option maxRecDepth 20000 in
theorem gX6_covers_X6_of : GoodIn wsX6_covers (wsV RX6 115 RX6 yX6_of wsX6_of) := goodIn_app (goodIn_of _ (by decide +kernel)) ggX6_covers_X6_of
theorem dX6_covers_0 : decode cX6_covers 0 = .ok (.iconst 0, 1) := by decide +kernel
theorem dX6_covers_1 : decode cX6_covers 1 = .ok (.istore 5, 2) := by decide +kernel
theorem dX6_covers_3 : decode cX6_covers 3 = .ok (.iload 5, 2) := by decide +kernel
theorem dX6_covers_5 : decode cX6_covers 5 = .ok (.aload_n 0, 1) := by decide +kernel
theorem dX6_covers_6 : decode cX6_covers 6 = .ok (.getfield 74, 3) := by decide +kernel
theorem dX6_covers_9 : decode cX6_covers 9 = .ok (.if_icmp .ge 80, 3) := by decide +kernel
theorem dX6_covers_12 : decode cX6_covers 12 = .ok (.aload_n 0, 1) := by decide +kernel
theorem dX6_covers_13 : decode cX6_covers 13 = .ok (.iload 5, 2) := by decide +kernel
theorem dX6_covers_15 : decode cX6_covers 15 = .ok (.iload_n 1, 1) := by decide +kernel
theorem dX6_covers_16 : decode cX6_covers 16 = .ok (.invokevirtual 130, 3) := by decide +kernel
theorem dX6_covers_19 : decode cX6_covers 19 = .ok (.ifCond .eq 64, 3) := by decide +kernel
theorem dX6_covers_22 : decode cX6_covers 22 = .ok (.aload_n 0, 1) := by decide +kernel
theorem dX6_covers_23 : decode cX6_covers 23 = .ok (.iload 5, 2) := by decide +kernel
theorem dX6_covers_25 : decode cX6_covers 25 = .ok (.bipush 6, 2) := by decide +kernel
theorem dX6_covers_27 : decode cX6_covers 27 = .ok (.invokevirtual 115, 3) := by decide +kernel
theorem dX6_covers_30 : decode cX6_covers 30 = .ok (.iload_n 2, 1) := by decide +kernel
theorem dX6_covers_31 : decode cX6_covers 31 = .ok (.if_icmp .ne 52, 3) := by decide +kernel
theorem dX6_covers_34 : decode cX6_covers 34 = .ok (.aload_n 0, 1) := by decide +kernel
theorem dX6_covers_35 : decode cX6_covers 35 = .ok (.iload 5, 2) := by decide +kernel
theorem dX6_covers_37 : decode cX6_covers 37 = .ok (.bipush 7, 2) := by decide +kernel
theorem dX6_covers_39 : decode cX6_covers 39 = .ok (.invokevirtual 115, 3) := by decide +kernel
theorem dX6_covers_42 : decode cX6_covers 42 = .ok (.iload_n 3, 1) := by decide +kernel
theorem dX6_covers_43 : decode cX6_covers 43 = .ok (.if_icmp .ne 40, 3) := by decide +kernel
theorem dX6_covers_46 : decode cX6_covers 46 = .ok (.iload 4, 2) := by decide +kernel
theorem dX6_covers_48 : decode cX6_covers 48 = .ok (.aload_n 0, 1) := by decide +kernel
theorem dX6_covers_49 : decode cX6_covers 49 = .ok (.iload 5, 2) := by decide +kernel
theorem dX6_covers_51 : decode cX6_covers 51 = .ok (.bipush 8, 2) := by decide +kernel
theorem dX6_covers_53 : decode cX6_covers 53 = .ok (.invokevirtual 115, 3) := by decide +kernel
theorem dX6_covers_56 : decode cX6_covers 56 = .ok (.if_icmp .lt 27, 3) := by decide +kernel
theorem dX6_covers_59 : decode cX6_covers 59 = .ok (.iload 4, 2) := by decide +kernel
theorem dX6_covers_61 : decode cX6_covers 61 = .ok (.aload_n 0, 1) := by decide +kernel
theorem dX6_covers_62 : decode cX6_covers 62 = .ok (.iload 5, 2) := by decide +kernel
theorem dX6_covers_64 : decode cX6_covers 64 = .ok (.bipush 8, 2) := by decide +kernel
theorem dX6_covers_66 : decode cX6_covers 66 = .ok (.invokevirtual 115, 3) := by decide +kernel
theorem dX6_covers_69 : decode cX6_covers 69 = .ok (.aload_n 0, 1) := by decide +kernel
theorem dX6_covers_70 : decode cX6_covers 70 = .ok (.iload 5, 2) := by decide +kernel
theorem dX6_covers_72 : decode cX6_covers 72 = .ok (.iconst 1, 1) := by decide +kernel
theorem dX6_covers_73 : decode cX6_covers 73 = .ok (.invokevirtual 115, 3) := by decide +kernel
theorem dX6_covers_76 : decode cX6_covers 76 = .ok (.iadd, 1) := by decide +kernel
theorem dX6_covers_77 : decode cX6_covers 77 = .ok (.if_icmp .ge 6, 3) := by decide +kernel
theorem dX6_covers_80 : decode cX6_covers 80 = .ok (.iload 5, 2) := by decide +kernel
theorem dX6_covers_82 : decode cX6_covers 82 = .ok (.ireturn, 1) := by decide +kernel
theorem dX6_covers_83 : decode cX6_covers 83 = .ok (.iinc 5 1, 3) := by decide +kernel
theorem dX6_covers_86 : decode cX6_covers 86 = .ok (.goto (-83), 3) := by decide +kernel
theorem dX6_covers_89 : decode cX6_covers 89 = .ok (.iconst (-1), 1) := by decide +kernel
theorem dX6_covers_90 : decode cX6_covers 90 = .ok (.ireturn, 1) := by decide +kernel
set_option maxRecDepth 20000 in
theorem ggX6_measure_X6_isAboard : GoodIn wsX6_measure wsX6_isAboard := goodIn_r _ [15, 16, 17, 18, 14, 19, 20, 21, 22, 23, 24, 25, 26, 27, 28, 29, 30, 31, 32, 33, 34, 35, 36, 37, 38, 39, 40, 41, 42, 43, 44, 45, 46, 47, 48, 49, 50, 51] (by decide +kernel) (by decide +kernel)
set_option maxRecDepth 20000 in
theorem gX6_measure_X6_isAboard : GoodIn wsX6_measure (wsV RX6 130 RX6 yX6_isAboard wsX6_isAboard) := goodIn_app (goodIn_of _ (by decide +kernel)) ggX6_measure_X6_isAboard
set_option maxRecDepth 20000 in
theorem ggX6_measure_X6_of : GoodIn wsX6_measure wsX6_of := goodIn_r _ [19, 20, 21, 22, 23, 24, 25, 26, 27, 28, 29, 30, 31, 32, 33, 34, 35, 36, 37, 38, 39, 40, 41, 42, 43, 44, 45, 46, 47, 48, 49, 50, 51] (by decide +kernel) (by decide +kernel)
set_option maxRecDepth 20000 in
theorem gX6_measure_X6_of : GoodIn wsX6_measure (wsV RX6 115 RX6 yX6_of wsX6_of) := goodIn_app (goodIn_of _ (by decide +kernel)) ggX6_measure_X6_of
theorem dX6_measure_0 : decode cX6_measure 0 = .ok (.aload_n 0, 1) := by decide +kernel
theorem dX6_measure_1 : decode cX6_measure 1 = .ok (.getfield 16, 3) := by decide +kernel
theorem dX6_measure_4 : decode cX6_measure 4 = .ok (.iload_n 2, 1) := by decide +kernel
theorem dX6_measure_5 : decode cX6_measure 5 = .ok (.iaload, 1) := by decide +kernel
theorem dX6_measure_6 : decode cX6_measure 6 = .ok (.istore 6, 2) := by decide +kernel
theorem dX6_measure_8 : decode cX6_measure 8 = .ok (.iconst 0, 1) := by decide +kernel
theorem dX6_measure_9 : decode cX6_measure 9 = .ok (.istore 7, 2) := by decide +kernel
theorem dX6_measure_11 : decode cX6_measure 11 = .ok (.iload 7, 2) := by decide +kernel
theorem dX6_measure_13 : decode cX6_measure 13 = .ok (.iload 6, 2) := by decide +kernel
theorem dX6_measure_15 : decode cX6_measure 15 = .ok (.if_icmp .ge 17, 3) := by decide +kernel
theorem dX6_measure_18 : decode cX6_measure 18 = .ok (.aload_n 0, 1) := by decide +kernel
theorem dX6_measure_19 : decode cX6_measure 19 = .ok (.getfield 71, 3) := by decide +kernel
theorem dX6_measure_22 : decode cX6_measure 22 = .ok (.iload 7, 2) := by decide +kernel
theorem dX6_measure_24 : decode cX6_measure 24 = .ok (.iconst 0, 1) := by decide +kernel
theorem dX6_measure_25 : decode cX6_measure 25 = .ok (.bastore, 1) := by decide +kernel
theorem dX6_measure_26 : decode cX6_measure 26 = .ok (.iinc 7 1, 3) := by decide +kernel
theorem dX6_measure_29 : decode cX6_measure 29 = .ok (.goto (-18), 3) := by decide +kernel
theorem dX6_measure_32 : decode cX6_measure 32 = .ok (.iconst 0, 1) := by decide +kernel
theorem dX6_measure_33 : decode cX6_measure 33 = .ok (.istore 7, 2) := by decide +kernel
theorem dX6_measure_35 : decode cX6_measure 35 = .ok (.iload 7, 2) := by decide +kernel
theorem dX6_measure_37 : decode cX6_measure 37 = .ok (.aload_n 0, 1) := by decide +kernel
theorem dX6_measure_38 : decode cX6_measure 38 = .ok (.getfield 74, 3) := by decide +kernel
theorem dX6_measure_41 : decode cX6_measure 41 = .ok (.if_icmp .ge 101, 3) := by decide +kernel
theorem dX6_measure_44 : decode cX6_measure 44 = .ok (.iload_n 1, 1) := by decide +kernel
theorem dX6_measure_45 : decode cX6_measure 45 = .ok (.iconst (-1), 1) := by decide +kernel
theorem dX6_measure_46 : decode cX6_measure 46 = .ok (.if_icmp .eq 96, 3) := by decide +kernel
theorem dX6_measure_49 : decode cX6_measure 49 = .ok (.aload_n 0, 1) := by decide +kernel
theorem dX6_measure_50 : decode cX6_measure 50 = .ok (.iload 7, 2) := by decide +kernel
theorem dX6_measure_52 : decode cX6_measure 52 = .ok (.iload_n 1, 1) := by decide +kernel
theorem dX6_measure_53 : decode cX6_measure 53 = .ok (.invokevirtual 130, 3) := by decide +kernel
theorem dX6_measure_56 : decode cX6_measure 56 = .ok (.ifCond .eq 80, 3) := by decide +kernel
theorem dX6_measure_59 : decode cX6_measure 59 = .ok (.aload_n 0, 1) := by decide +kernel
theorem dX6_measure_60 : decode cX6_measure 60 = .ok (.iload 7, 2) := by decide +kernel
theorem dX6_measure_62 : decode cX6_measure 62 = .ok (.bipush 6, 2) := by decide +kernel
theorem dX6_measure_64 : decode cX6_measure 64 = .ok (.invokevirtual 115, 3) := by decide +kernel
theorem dX6_measure_67 : decode cX6_measure 67 = .ok (.iload_n 3, 1) := by decide +kernel
theorem dX6_measure_68 : decode cX6_measure 68 = .ok (.if_icmp .ne 68, 3) := by decide +kernel
theorem dX6_measure_71 : decode cX6_measure 71 = .ok (.aload_n 0, 1) := by decide +kernel
theorem dX6_measure_72 : decode cX6_measure 72 = .ok (.iload 7, 2) := by decide +kernel
theorem dX6_measure_74 : decode cX6_measure 74 = .ok (.bipush 7, 2) := by decide +kernel
theorem dX6_measure_76 : decode cX6_measure 76 = .ok (.invokevirtual 115, 3) := by decide +kernel
theorem dX6_measure_79 : decode cX6_measure 79 = .ok (.iload 4, 2) := by decide +kernel
theorem dX6_measure_81 : decode cX6_measure 81 = .ok (.if_icmp .eq 6, 3) := by decide +kernel
theorem dX6_measure_84 : decode cX6_measure 84 = .ok (.goto 52, 3) := by decide +kernel
theorem dX6_measure_87 : decode cX6_measure 87 = .ok (.aload_n 0, 1) := by decide +kernel
theorem dX6_measure_88 : decode cX6_measure 88 = .ok (.iload 7, 2) := by decide +kernel
theorem dX6_measure_90 : decode cX6_measure 90 = .ok (.bipush 8, 2) := by decide +kernel
theorem dX6_measure_92 : decode cX6_measure 92 = .ok (.invokevirtual 115, 3) := by decide +kernel
theorem dX6_measure_95 : decode cX6_measure 95 = .ok (.aload_n 0, 1) := by decide +kernel
theorem dX6_measure_96 : decode cX6_measure 96 = .ok (.iload 7, 2) := by decide +kernel
theorem dX6_measure_98 : decode cX6_measure 98 = .ok (.iconst 1, 1) := by decide +kernel
theorem dX6_measure_99 : decode cX6_measure 99 = .ok (.invokevirtual 115, 3) := by decide +kernel
theorem dX6_measure_102 : decode cX6_measure 102 = .ok (.iadd, 1) := by decide +kernel
theorem dX6_measure_103 : decode cX6_measure 103 = .ok (.istore 8, 2) := by decide +kernel
theorem dX6_measure_105 : decode cX6_measure 105 = .ok (.aload_n 0, 1) := by decide +kernel
theorem dX6_measure_106 : decode cX6_measure 106 = .ok (.iload 7, 2) := by decide +kernel
theorem dX6_measure_108 : decode cX6_measure 108 = .ok (.bipush 8, 2) := by decide +kernel
theorem dX6_measure_110 : decode cX6_measure 110 = .ok (.invokevirtual 115, 3) := by decide +kernel
theorem dX6_measure_113 : decode cX6_measure 113 = .ok (.istore 9, 2) := by decide +kernel
theorem dX6_measure_115 : decode cX6_measure 115 = .ok (.iload 9, 2) := by decide +kernel
theorem dX6_measure_117 : decode cX6_measure 117 = .ok (.iload 8, 2) := by decide +kernel
theorem dX6_measure_119 : decode cX6_measure 119 = .ok (.if_icmp .ge 17, 3) := by decide +kernel
theorem dX6_measure_122 : decode cX6_measure 122 = .ok (.aload_n 0, 1) := by decide +kernel
theorem dX6_measure_123 : decode cX6_measure 123 = .ok (.getfield 71, 3) := by decide +kernel
theorem dX6_measure_126 : decode cX6_measure 126 = .ok (.iload 9, 2) := by decide +kernel
theorem dX6_measure_128 : decode cX6_measure 128 = .ok (.iconst 1, 1) := by decide +kernel
theorem dX6_measure_129 : decode cX6_measure 129 = .ok (.bastore, 1) := by decide +kernel
theorem dX6_measure_130 : decode cX6_measure 130 = .ok (.iinc 9 1, 3) := by decide +kernel
theorem dX6_measure_133 : decode cX6_measure 133 = .ok (.goto (-18), 3) := by decide +kernel
theorem dX6_measure_136 : decode cX6_measure 136 = .ok (.iinc 7 1, 3) := by decide +kernel
theorem dX6_measure_139 : decode cX6_measure 139 = .ok (.goto (-104), 3) := by decide +kernel
theorem dX6_measure_142 : decode cX6_measure 142 = .ok (.aload_n 0, 1) := by decide +kernel
theorem dX6_measure_143 : decode cX6_measure 143 = .ok (.iconst 0, 1) := by decide +kernel
theorem dX6_measure_144 : decode cX6_measure 144 = .ok (.putfield 134, 3) := by decide +kernel
theorem dX6_measure_147 : decode cX6_measure 147 = .ok (.aload_n 0, 1) := by decide +kernel
theorem dX6_measure_148 : decode cX6_measure 148 = .ok (.iconst 0, 1) := by decide +kernel
theorem dX6_measure_149 : decode cX6_measure 149 = .ok (.putfield 137, 3) := by decide +kernel
theorem dX6_measure_152 : decode cX6_measure 152 = .ok (.aload_n 0, 1) := by decide +kernel
theorem dX6_measure_153 : decode cX6_measure 153 = .ok (.iconst (-1), 1) := by decide +kernel
theorem dX6_measure_154 : decode cX6_measure 154 = .ok (.putfield 140, 3) := by decide +kernel
theorem dX6_measure_157 : decode cX6_measure 157 = .ok (.iconst 0, 1) := by decide +kernel
theorem dX6_measure_158 : decode cX6_measure 158 = .ok (.istore 7, 2) := by decide +kernel
theorem dX6_measure_160 : decode cX6_measure 160 = .ok (.iconst 0, 1) := by decide +kernel
theorem dX6_measure_161 : decode cX6_measure 161 = .ok (.istore 8, 2) := by decide +kernel
theorem dX6_measure_163 : decode cX6_measure 163 = .ok (.iload 8, 2) := by decide +kernel
theorem dX6_measure_165 : decode cX6_measure 165 = .ok (.iload 6, 2) := by decide +kernel
theorem dX6_measure_167 : decode cX6_measure 167 = .ok (.if_icmp .ge 92, 3) := by decide +kernel
theorem dX6_measure_170 : decode cX6_measure 170 = .ok (.aload_n 0, 1) := by decide +kernel
theorem dX6_measure_171 : decode cX6_measure 171 = .ok (.getfield 71, 3) := by decide +kernel
theorem dX6_measure_174 : decode cX6_measure 174 = .ok (.iload 8, 2) := by decide +kernel
theorem dX6_measure_176 : decode cX6_measure 176 = .ok (.baload, 1) := by decide +kernel
theorem dX6_measure_177 : decode cX6_measure 177 = .ok (.ifCond .eq 7, 3) := by decide +kernel
theorem dX6_measure_180 : decode cX6_measure 180 = .ok (.iconst 0, 1) := by decide +kernel
theorem dX6_measure_181 : decode cX6_measure 181 = .ok (.goto 7, 3) := by decide +kernel
theorem dX6_measure_184 : decode cX6_measure 184 = .ok (.iload 7, 2) := by decide +kernel
theorem dX6_measure_186 : decode cX6_measure 186 = .ok (.iconst 1, 1) := by decide +kernel
theorem dX6_measure_187 : decode cX6_measure 187 = .ok (.iadd, 1) := by decide +kernel
theorem dX6_measure_188 : decode cX6_measure 188 = .ok (.istore 7, 2) := by decide +kernel
theorem dX6_measure_190 : decode cX6_measure 190 = .ok (.aload_n 0, 1) := by decide +kernel
theorem dX6_measure_191 : decode cX6_measure 191 = .ok (.dup, 1) := by decide +kernel
theorem dX6_measure_192 : decode cX6_measure 192 = .ok (.getfield 134, 3) := by decide +kernel
theorem dX6_measure_195 : decode cX6_measure 195 = .ok (.aload_n 0, 1) := by decide +kernel
theorem dX6_measure_196 : decode cX6_measure 196 = .ok (.getfield 71, 3) := by decide +kernel
theorem dX6_measure_199 : decode cX6_measure 199 = .ok (.iload 8, 2) := by decide +kernel
theorem dX6_measure_201 : decode cX6_measure 201 = .ok (.baload, 1) := by decide +kernel
theorem dX6_measure_202 : decode cX6_measure 202 = .ok (.ifCond .eq 7, 3) := by decide +kernel
theorem dX6_measure_205 : decode cX6_measure 205 = .ok (.iconst 0, 1) := by decide +kernel
theorem dX6_measure_206 : decode cX6_measure 206 = .ok (.goto 4, 3) := by decide +kernel
theorem dX6_measure_209 : decode cX6_measure 209 = .ok (.iconst 1, 1) := by decide +kernel
theorem dX6_measure_210 : decode cX6_measure 210 = .ok (.iadd, 1) := by decide +kernel
theorem dX6_measure_211 : decode cX6_measure 211 = .ok (.putfield 134, 3) := by decide +kernel
theorem dX6_measure_214 : decode cX6_measure 214 = .ok (.aload_n 0, 1) := by decide +kernel
theorem dX6_measure_215 : decode cX6_measure 215 = .ok (.aload_n 0, 1) := by decide +kernel
theorem dX6_measure_216 : decode cX6_measure 216 = .ok (.getfield 137, 3) := by decide +kernel
theorem dX6_measure_219 : decode cX6_measure 219 = .ok (.iload 7, 2) := by decide +kernel
theorem dX6_measure_221 : decode cX6_measure 221 = .ok (.invokestatic 143, 3) := by decide +kernel
theorem dX6_measure_224 : decode cX6_measure 224 = .ok (.putfield 137, 3) := by decide +kernel
theorem dX6_measure_227 : decode cX6_measure 227 = .ok (.iload 7, 2) := by decide +kernel
theorem dX6_measure_229 : decode cX6_measure 229 = .ok (.iload 5, 2) := by decide +kernel
theorem dX6_measure_231 : decode cX6_measure 231 = .ok (.if_icmp .ne 22, 3) := by decide +kernel
theorem dX6_measure_234 : decode cX6_measure 234 = .ok (.aload_n 0, 1) := by decide +kernel
theorem dX6_measure_235 : decode cX6_measure 235 = .ok (.getfield 140, 3) := by decide +kernel
theorem dX6_measure_238 : decode cX6_measure 238 = .ok (.iconst (-1), 1) := by decide +kernel
theorem dX6_measure_239 : decode cX6_measure 239 = .ok (.if_icmp .ne 14, 3) := by decide +kernel
theorem dX6_measure_242 : decode cX6_measure 242 = .ok (.aload_n 0, 1) := by decide +kernel
theorem dX6_measure_243 : decode cX6_measure 243 = .ok (.iload 8, 2) := by decide +kernel
theorem dX6_measure_245 : decode cX6_measure 245 = .ok (.iload 5, 2) := by decide +kernel
theorem dX6_measure_247 : decode cX6_measure 247 = .ok (.isub, 1) := by decide +kernel
theorem dX6_measure_248 : decode cX6_measure 248 = .ok (.iconst 1, 1) := by decide +kernel
theorem dX6_measure_249 : decode cX6_measure 249 = .ok (.iadd, 1) := by decide +kernel
theorem dX6_measure_250 : decode cX6_measure 250 = .ok (.putfield 140, 3) := by decide +kernel
theorem dX6_measure_253 : decode cX6_measure 253 = .ok (.iinc 8 1, 3) := by decide +kernel
theorem dX6_measure_256 : decode cX6_measure 256 = .ok (.goto (-93), 3) := by decide +kernel
theorem dX6_measure_259 : decode cX6_measure 259 = .ok (.return_, 1) := by decide +kernel
set_option maxRecDepth 20000 in
theorem ggX6_mayStand_X6_isAboard : GoodIn wsX6_mayStand wsX6_isAboard := goodIn_r _ [7, 8, 9, 10, 6, 11, 12, 13, 14, 15, 16, 17, 18, 19, 20, 21, 22, 23, 24, 25, 26, 27, 28, 29, 30, 31, 32, 33, 34, 35, 36, 37, 38, 39, 40, 41, 42, 43] (by decide +kernel) (by decide +kernel)
set_option maxRecDepth 20000 in
theorem gX6_mayStand_X6_isAboard : GoodIn wsX6_mayStand (wsV RX6 130 RX6 yX6_isAboard wsX6_isAboard) := goodIn_app (goodIn_of _ (by decide +kernel)) ggX6_mayStand_X6_isAboard
set_option maxRecDepth 20000 in
theorem ggX6_mayStand_X6_of : GoodIn wsX6_mayStand wsX6_of := goodIn_r _ [11, 12, 13, 14, 15, 16, 17, 18, 19, 20, 21, 22, 23, 24, 25, 26, 27, 28, 29, 30, 31, 32, 33, 34, 35, 36, 37, 38, 39, 40, 41, 42, 43] (by decide +kernel) (by decide +kernel)
set_option maxRecDepth 20000 in
theorem gX6_mayStand_X6_of : GoodIn wsX6_mayStand (wsV RX6 115 RX6 yX6_of wsX6_of) := goodIn_app (goodIn_of _ (by decide +kernel)) ggX6_mayStand_X6_of
theorem dX6_mayStand_0 : decode cX6_mayStand 0 = .ok (.iload 5, 2) := by decide +kernel
theorem dX6_mayStand_2 : decode cX6_mayStand 2 = .ok (.iconst 2, 1) := by decide +kernel
theorem dX6_mayStand_3 : decode cX6_mayStand 3 = .ok (.if_icmp .ne 7, 3) := by decide +kernel
theorem dX6_mayStand_6 : decode cX6_mayStand 6 = .ok (.iload_n 3, 1) := by decide +kernel
theorem dX6_mayStand_7 : decode cX6_mayStand 7 = .ok (.ifCond .gt 14, 3) := by decide +kernel
theorem dX6_mayStand_10 : decode cX6_mayStand 10 = .ok (.iload 5, 2) := by decide +kernel
theorem dX6_mayStand_12 : decode cX6_mayStand 12 = .ok (.iconst 1, 1) := by decide +kernel
theorem dX6_mayStand_13 : decode cX6_mayStand 13 = .ok (.if_icmp .ne 10, 3) := by decide +kernel
theorem dX6_mayStand_16 : decode cX6_mayStand 16 = .ok (.iload_n 3, 1) := by decide +kernel
theorem dX6_mayStand_17 : decode cX6_mayStand 17 = .ok (.iconst 1, 1) := by decide +kernel
theorem dX6_mayStand_18 : decode cX6_mayStand 18 = .ok (.if_icmp .le 5, 3) := by decide +kernel
theorem dX6_mayStand_21 : decode cX6_mayStand 21 = .ok (.iconst 0, 1) := by decide +kernel
theorem dX6_mayStand_22 : decode cX6_mayStand 22 = .ok (.ireturn, 1) := by decide +kernel
theorem dX6_mayStand_23 : decode cX6_mayStand 23 = .ok (.aload_n 0, 1) := by decide +kernel
theorem dX6_mayStand_24 : decode cX6_mayStand 24 = .ok (.getfield 19, 3) := by decide +kernel
theorem dX6_mayStand_27 : decode cX6_mayStand 27 = .ok (.iload_n 2, 1) := by decide +kernel
theorem dX6_mayStand_28 : decode cX6_mayStand 28 = .ok (.baload, 1) := by decide +kernel
theorem dX6_mayStand_29 : decode cX6_mayStand 29 = .ok (.ifCond .eq 8, 3) := by decide +kernel
theorem dX6_mayStand_32 : decode cX6_mayStand 32 = .ok (.iload_n 1, 1) := by decide +kernel
theorem dX6_mayStand_33 : decode cX6_mayStand 33 = .ok (.iconst (-1), 1) := by decide +kernel
theorem dX6_mayStand_34 : decode cX6_mayStand 34 = .ok (.if_icmp .ne 5, 3) := by decide +kernel
theorem dX6_mayStand_37 : decode cX6_mayStand 37 = .ok (.iconst 1, 1) := by decide +kernel
theorem dX6_mayStand_38 : decode cX6_mayStand 38 = .ok (.ireturn, 1) := by decide +kernel
theorem dX6_mayStand_39 : decode cX6_mayStand 39 = .ok (.iload 5, 2) := by decide +kernel
theorem dX6_mayStand_41 : decode cX6_mayStand 41 = .ok (.iconst 2, 1) := by decide +kernel
theorem dX6_mayStand_42 : decode cX6_mayStand 42 = .ok (.if_icmp .ne 13, 3) := by decide +kernel
theorem dX6_mayStand_45 : decode cX6_mayStand 45 = .ok (.iload 4, 2) := by decide +kernel
theorem dX6_mayStand_47 : decode cX6_mayStand 47 = .ok (.iconst 2, 1) := by decide +kernel
theorem dX6_mayStand_48 : decode cX6_mayStand 48 = .ok (.if_icmp .ge 7, 3) := by decide +kernel
theorem dX6_mayStand_51 : decode cX6_mayStand 51 = .ok (.iconst 1, 1) := by decide +kernel
theorem dX6_mayStand_52 : decode cX6_mayStand 52 = .ok (.goto 4, 3) := by decide +kernel
theorem dX6_mayStand_55 : decode cX6_mayStand 55 = .ok (.iconst 0, 1) := by decide +kernel
theorem dX6_mayStand_56 : decode cX6_mayStand 56 = .ok (.istore 6, 2) := by decide +kernel
theorem dX6_mayStand_58 : decode cX6_mayStand 58 = .ok (.iload 6, 2) := by decide +kernel
theorem dX6_mayStand_60 : decode cX6_mayStand 60 = .ok (.ifCond .ne 10, 3) := by decide +kernel
theorem dX6_mayStand_63 : decode cX6_mayStand 63 = .ok (.iload_n 3, 1) := by decide +kernel
theorem dX6_mayStand_64 : decode cX6_mayStand 64 = .ok (.iconst 1, 1) := by decide +kernel
theorem dX6_mayStand_65 : decode cX6_mayStand 65 = .ok (.if_icmp .eq 5, 3) := by decide +kernel
theorem dX6_mayStand_68 : decode cX6_mayStand 68 = .ok (.iconst 1, 1) := by decide +kernel
theorem dX6_mayStand_69 : decode cX6_mayStand 69 = .ok (.ireturn, 1) := by decide +kernel
theorem dX6_mayStand_70 : decode cX6_mayStand 70 = .ok (.iconst 0, 1) := by decide +kernel
theorem dX6_mayStand_71 : decode cX6_mayStand 71 = .ok (.istore 7, 2) := by decide +kernel
theorem dX6_mayStand_73 : decode cX6_mayStand 73 = .ok (.iload 7, 2) := by decide +kernel
theorem dX6_mayStand_75 : decode cX6_mayStand 75 = .ok (.aload_n 0, 1) := by decide +kernel
theorem dX6_mayStand_76 : decode cX6_mayStand 76 = .ok (.getfield 74, 3) := by decide +kernel
theorem dX6_mayStand_79 : decode cX6_mayStand 79 = .ok (.if_icmp .ge 82, 3) := by decide +kernel
theorem dX6_mayStand_82 : decode cX6_mayStand 82 = .ok (.aload_n 0, 1) := by decide +kernel
theorem dX6_mayStand_83 : decode cX6_mayStand 83 = .ok (.iload 7, 2) := by decide +kernel
theorem dX6_mayStand_85 : decode cX6_mayStand 85 = .ok (.iload_n 1, 1) := by decide +kernel
theorem dX6_mayStand_86 : decode cX6_mayStand 86 = .ok (.invokevirtual 130, 3) := by decide +kernel
theorem dX6_mayStand_89 : decode cX6_mayStand 89 = .ok (.ifCond .ne 6, 3) := by decide +kernel
theorem dX6_mayStand_92 : decode cX6_mayStand 92 = .ok (.goto 63, 3) := by decide +kernel
theorem dX6_mayStand_95 : decode cX6_mayStand 95 = .ok (.iload 6, 2) := by decide +kernel
theorem dX6_mayStand_97 : decode cX6_mayStand 97 = .ok (.ifCond .eq 17, 3) := by decide +kernel
theorem dX6_mayStand_100 : decode cX6_mayStand 100 = .ok (.aload_n 0, 1) := by decide +kernel
theorem dX6_mayStand_101 : decode cX6_mayStand 101 = .ok (.iload 7, 2) := by decide +kernel
theorem dX6_mayStand_103 : decode cX6_mayStand 103 = .ok (.bipush 6, 2) := by decide +kernel
theorem dX6_mayStand_105 : decode cX6_mayStand 105 = .ok (.invokevirtual 115, 3) := by decide +kernel
theorem dX6_mayStand_108 : decode cX6_mayStand 108 = .ok (.iconst 1, 1) := by decide +kernel
theorem dX6_mayStand_109 : decode cX6_mayStand 109 = .ok (.if_icmp .ne 5, 3) := by decide +kernel
theorem dX6_mayStand_112 : decode cX6_mayStand 112 = .ok (.iconst 0, 1) := by decide +kernel
theorem dX6_mayStand_113 : decode cX6_mayStand 113 = .ok (.ireturn, 1) := by decide +kernel
theorem dX6_mayStand_114 : decode cX6_mayStand 114 = .ok (.iload_n 3, 1) := by decide +kernel
theorem dX6_mayStand_115 : decode cX6_mayStand 115 = .ok (.iconst 1, 1) := by decide +kernel
theorem dX6_mayStand_116 : decode cX6_mayStand 116 = .ok (.if_icmp .ne 39, 3) := by decide +kernel
theorem dX6_mayStand_119 : decode cX6_mayStand 119 = .ok (.aload_n 0, 1) := by decide +kernel
theorem dX6_mayStand_120 : decode cX6_mayStand 120 = .ok (.iload 7, 2) := by decide +kernel
theorem dX6_mayStand_122 : decode cX6_mayStand 122 = .ok (.bipush 6, 2) := by decide +kernel
theorem dX6_mayStand_124 : decode cX6_mayStand 124 = .ok (.invokevirtual 115, 3) := by decide +kernel
theorem dX6_mayStand_127 : decode cX6_mayStand 127 = .ok (.ifCond .ne 28, 3) := by decide +kernel
theorem dX6_mayStand_130 : decode cX6_mayStand 130 = .ok (.aload_n 0, 1) := by decide +kernel
theorem dX6_mayStand_131 : decode cX6_mayStand 131 = .ok (.iload 7, 2) := by decide +kernel
theorem dX6_mayStand_133 : decode cX6_mayStand 133 = .ok (.bipush 7, 2) := by decide +kernel
theorem dX6_mayStand_135 : decode cX6_mayStand 135 = .ok (.invokevirtual 115, 3) := by decide +kernel
theorem dX6_mayStand_138 : decode cX6_mayStand 138 = .ok (.iconst 2, 1) := by decide +kernel
theorem dX6_mayStand_139 : decode cX6_mayStand 139 = .ok (.if_icmp .ge 16, 3) := by decide +kernel
theorem dX6_mayStand_142 : decode cX6_mayStand 142 = .ok (.aload_n 0, 1) := by decide +kernel
theorem dX6_mayStand_143 : decode cX6_mayStand 143 = .ok (.iload 7, 2) := by decide +kernel
theorem dX6_mayStand_145 : decode cX6_mayStand 145 = .ok (.iconst 2, 1) := by decide +kernel
theorem dX6_mayStand_146 : decode cX6_mayStand 146 = .ok (.invokevirtual 115, 3) := by decide +kernel
theorem dX6_mayStand_149 : decode cX6_mayStand 149 = .ok (.iconst 2, 1) := by decide +kernel
theorem dX6_mayStand_150 : decode cX6_mayStand 150 = .ok (.if_icmp .ne 5, 3) := by decide +kernel
theorem dX6_mayStand_153 : decode cX6_mayStand 153 = .ok (.iconst 0, 1) := by decide +kernel
theorem dX6_mayStand_154 : decode cX6_mayStand 154 = .ok (.ireturn, 1) := by decide +kernel
theorem dX6_mayStand_155 : decode cX6_mayStand 155 = .ok (.iinc 7 1, 3) := by decide +kernel
theorem dX6_mayStand_158 : decode cX6_mayStand 158 = .ok (.goto (-85), 3) := by decide +kernel
theorem dX6_mayStand_161 : decode cX6_mayStand 161 = .ok (.iconst 1, 1) := by decide +kernel
theorem dX6_mayStand_162 : decode cX6_mayStand 162 = .ok (.ireturn, 1) := by decide +kernel
set_option maxRecDepth 20000 in
theorem ggX6_boards_X6_of : GoodIn wsX6_boards wsX6_of := goodIn_r _ [12, 13, 39, 40, 41, 42, 43, 44, 45, 46, 47, 48, 49, 50, 51, 52, 53, 54, 55, 56, 57, 58, 59, 60, 61, 62, 63, 64, 65, 66, 67, 68, 69] (by decide +kernel) (by decide +kernel)
set_option maxRecDepth 20000 in
theorem gX6_boards_X6_of : GoodIn wsX6_boards (wsV RX6 115 RX6 yX6_of wsX6_of) := goodIn_app (goodIn_of _ (by decide +kernel)) ggX6_boards_X6_of
set_option maxRecDepth 20000 in
theorem ggX6_boards_X6_mayStand : GoodIn wsX6_boards wsX6_mayStand := goodIn_r _ [17, 18, 19, 20, 21, 22, 11, 23, 8, 9, 10, 12, 13, 39, 40, 41, 42, 43, 44, 45, 46, 47, 48, 49, 50, 51, 52, 53, 54, 55, 56, 57, 58, 59, 60, 61, 62, 63, 64, 65, 66, 67, 68, 69] (by decide +kernel) (by decide +kernel)
set_option maxRecDepth 20000 in
theorem gX6_boards_X6_mayStand : GoodIn wsX6_boards (wsV RX6 146 RX6 yX6_mayStand wsX6_mayStand) := goodIn_app (goodIn_of _ (by decide +kernel)) ggX6_boards_X6_mayStand
set_option maxRecDepth 20000 in
theorem ggX6_boards_X6_measure : GoodIn wsX6_boards wsX6_measure := goodIn_r _ [27, 28, 29, 19, 5, 30, 4, 31, 32, 33, 34, 20, 21, 22, 11, 23, 8, 9, 10, 12, 13, 39, 40, 41, 42, 43, 44, 45, 46, 47, 48, 49, 50, 51, 52, 53, 54, 55, 56, 57, 58, 59, 60, 61, 62, 63, 64, 65, 66, 67, 68, 69] (by decide +kernel) (by decide +kernel)
set_option maxRecDepth 20000 in
theorem gX6_boards_X6_measure : GoodIn wsX6_boards (wsV RX6 150 RX6 yX6_measure wsX6_measure) := goodIn_app (goodIn_of _ (by decide +kernel)) ggX6_boards_X6_measure
set_option maxRecDepth 20000 in
theorem ggX6_boards_X6_put : GoodIn wsX6_boards wsX6_put := goodIn_r _ [38, 13, 39, 40, 41, 42, 43, 44, 45, 46, 47, 48, 49, 50, 51, 52, 53, 54, 55, 56, 57, 58, 59, 60, 61, 62, 63, 64, 65, 66, 67, 68, 69] (by decide +kernel) (by decide +kernel)
set_option maxRecDepth 20000 in
theorem gX6_boards_X6_put : GoodIn wsX6_boards (wsV RX6 108 RX6 yX6_put wsX6_put) := goodIn_app (goodIn_of _ (by decide +kernel)) ggX6_boards_X6_put
theorem dX6_boards_0 : decode cX6_boards 0 = .ok (.aload_n 0, 1) := by decide +kernel
theorem dX6_boards_1 : decode cX6_boards 1 = .ok (.getfield 29, 3) := by decide +kernel
theorem dX6_boards_4 : decode cX6_boards 4 = .ok (.iload_n 2, 1) := by decide +kernel
theorem dX6_boards_5 : decode cX6_boards 5 = .ok (.iaload, 1) := by decide +kernel
theorem dX6_boards_6 : decode cX6_boards 6 = .ok (.istore_n 3, 1) := by decide +kernel
theorem dX6_boards_7 : decode cX6_boards 7 = .ok (.iconst (-1), 1) := by decide +kernel
theorem dX6_boards_8 : decode cX6_boards 8 = .ok (.istore 4, 2) := by decide +kernel
theorem dX6_boards_10 : decode cX6_boards 10 = .ok (.iconst 0, 1) := by decide +kernel
theorem dX6_boards_11 : decode cX6_boards 11 = .ok (.istore 5, 2) := by decide +kernel
theorem dX6_boards_13 : decode cX6_boards 13 = .ok (.iconst 0, 1) := by decide +kernel
theorem dX6_boards_14 : decode cX6_boards 14 = .ok (.istore 6, 2) := by decide +kernel
theorem dX6_boards_16 : decode cX6_boards 16 = .ok (.iconst 0, 1) := by decide +kernel
theorem dX6_boards_17 : decode cX6_boards 17 = .ok (.istore 7, 2) := by decide +kernel
theorem dX6_boards_19 : decode cX6_boards 19 = .ok (.iload 7, 2) := by decide +kernel
theorem dX6_boards_21 : decode cX6_boards 21 = .ok (.aload_n 0, 1) := by decide +kernel
theorem dX6_boards_22 : decode cX6_boards 22 = .ok (.getfield 7, 3) := by decide +kernel
theorem dX6_boards_25 : decode cX6_boards 25 = .ok (.iload_n 3, 1) := by decide +kernel
theorem dX6_boards_26 : decode cX6_boards 26 = .ok (.iaload, 1) := by decide +kernel
theorem dX6_boards_27 : decode cX6_boards 27 = .ok (.aload_n 0, 1) := by decide +kernel
theorem dX6_boards_28 : decode cX6_boards 28 = .ok (.getfield 13, 3) := by decide +kernel
theorem dX6_boards_31 : decode cX6_boards 31 = .ok (.iload_n 3, 1) := by decide +kernel
theorem dX6_boards_32 : decode cX6_boards 32 = .ok (.iaload, 1) := by decide +kernel
theorem dX6_boards_33 : decode cX6_boards 33 = .ok (.imul, 1) := by decide +kernel
theorem dX6_boards_34 : decode cX6_boards 34 = .ok (.if_icmp .ge 111, 3) := by decide +kernel
theorem dX6_boards_37 : decode cX6_boards 37 = .ok (.iload 7, 2) := by decide +kernel
theorem dX6_boards_39 : decode cX6_boards 39 = .ok (.aload_n 0, 1) := by decide +kernel
theorem dX6_boards_40 : decode cX6_boards 40 = .ok (.getfield 13, 3) := by decide +kernel
theorem dX6_boards_43 : decode cX6_boards 43 = .ok (.iload_n 3, 1) := by decide +kernel
theorem dX6_boards_44 : decode cX6_boards 44 = .ok (.iaload, 1) := by decide +kernel
theorem dX6_boards_45 : decode cX6_boards 45 = .ok (.idiv, 1) := by decide +kernel
theorem dX6_boards_46 : decode cX6_boards 46 = .ok (.istore 8, 2) := by decide +kernel
theorem dX6_boards_48 : decode cX6_boards 48 = .ok (.iload 7, 2) := by decide +kernel
theorem dX6_boards_50 : decode cX6_boards 50 = .ok (.aload_n 0, 1) := by decide +kernel
theorem dX6_boards_51 : decode cX6_boards 51 = .ok (.getfield 13, 3) := by decide +kernel
theorem dX6_boards_54 : decode cX6_boards 54 = .ok (.iload_n 3, 1) := by decide +kernel
theorem dX6_boards_55 : decode cX6_boards 55 = .ok (.iaload, 1) := by decide +kernel
theorem dX6_boards_56 : decode cX6_boards 56 = .ok (.irem, 1) := by decide +kernel
theorem dX6_boards_57 : decode cX6_boards 57 = .ok (.istore 9, 2) := by decide +kernel
theorem dX6_boards_59 : decode cX6_boards 59 = .ok (.aload_n 0, 1) := by decide +kernel
theorem dX6_boards_60 : decode cX6_boards 60 = .ok (.iload_n 2, 1) := by decide +kernel
theorem dX6_boards_61 : decode cX6_boards 61 = .ok (.iload_n 3, 1) := by decide +kernel
theorem dX6_boards_62 : decode cX6_boards 62 = .ok (.iload 8, 2) := by decide +kernel
theorem dX6_boards_64 : decode cX6_boards 64 = .ok (.iload 9, 2) := by decide +kernel
theorem dX6_boards_66 : decode cX6_boards 66 = .ok (.aload_n 0, 1) := by decide +kernel
theorem dX6_boards_67 : decode cX6_boards 67 = .ok (.iload_n 1, 1) := by decide +kernel
theorem dX6_boards_68 : decode cX6_boards 68 = .ok (.iconst 2, 1) := by decide +kernel
theorem dX6_boards_69 : decode cX6_boards 69 = .ok (.invokevirtual 115, 3) := by decide +kernel
theorem dX6_boards_72 : decode cX6_boards 72 = .ok (.invokevirtual 146, 3) := by decide +kernel
theorem dX6_boards_75 : decode cX6_boards 75 = .ok (.ifCond .ne 6, 3) := by decide +kernel
theorem dX6_boards_78 : decode cX6_boards 78 = .ok (.goto 61, 3) := by decide +kernel
theorem dX6_boards_81 : decode cX6_boards 81 = .ok (.aload_n 0, 1) := by decide +kernel
theorem dX6_boards_82 : decode cX6_boards 82 = .ok (.iload_n 2, 1) := by decide +kernel
theorem dX6_boards_83 : decode cX6_boards 83 = .ok (.iload_n 3, 1) := by decide +kernel
theorem dX6_boards_84 : decode cX6_boards 84 = .ok (.iload 8, 2) := by decide +kernel
theorem dX6_boards_86 : decode cX6_boards 86 = .ok (.iload 9, 2) := by decide +kernel
theorem dX6_boards_88 : decode cX6_boards 88 = .ok (.aload_n 0, 1) := by decide +kernel
theorem dX6_boards_89 : decode cX6_boards 89 = .ok (.iload_n 1, 1) := by decide +kernel
theorem dX6_boards_90 : decode cX6_boards 90 = .ok (.iconst 1, 1) := by decide +kernel
theorem dX6_boards_91 : decode cX6_boards 91 = .ok (.invokevirtual 115, 3) := by decide +kernel
theorem dX6_boards_94 : decode cX6_boards 94 = .ok (.invokevirtual 150, 3) := by decide +kernel
theorem dX6_boards_97 : decode cX6_boards 97 = .ok (.aload_n 0, 1) := by decide +kernel
theorem dX6_boards_98 : decode cX6_boards 98 = .ok (.getfield 140, 3) := by decide +kernel
theorem dX6_boards_101 : decode cX6_boards 101 = .ok (.iconst (-1), 1) := by decide +kernel
theorem dX6_boards_102 : decode cX6_boards 102 = .ok (.if_icmp .eq 37, 3) := by decide +kernel
theorem dX6_boards_105 : decode cX6_boards 105 = .ok (.iload 4, 2) := by decide +kernel
theorem dX6_boards_107 : decode cX6_boards 107 = .ok (.iconst (-1), 1) := by decide +kernel
theorem dX6_boards_108 : decode cX6_boards 108 = .ok (.if_icmp .eq 15, 3) := by decide +kernel
theorem dX6_boards_111 : decode cX6_boards 111 = .ok (.aload_n 0, 1) := by decide +kernel
theorem dX6_boards_112 : decode cX6_boards 112 = .ok (.getfield 134, 3) := by decide +kernel
theorem dX6_boards_115 : decode cX6_boards 115 = .ok (.iload 5, 2) := by decide +kernel
theorem dX6_boards_117 : decode cX6_boards 117 = .ok (.if_icmp .lt 6, 3) := by decide +kernel
theorem dX6_boards_120 : decode cX6_boards 120 = .ok (.goto 19, 3) := by decide +kernel
theorem dX6_boards_123 : decode cX6_boards 123 = .ok (.iload 7, 2) := by decide +kernel
theorem dX6_boards_125 : decode cX6_boards 125 = .ok (.istore 4, 2) := by decide +kernel
theorem dX6_boards_127 : decode cX6_boards 127 = .ok (.aload_n 0, 1) := by decide +kernel
theorem dX6_boards_128 : decode cX6_boards 128 = .ok (.getfield 134, 3) := by decide +kernel
theorem dX6_boards_131 : decode cX6_boards 131 = .ok (.istore 5, 2) := by decide +kernel
theorem dX6_boards_133 : decode cX6_boards 133 = .ok (.aload_n 0, 1) := by decide +kernel
theorem dX6_boards_134 : decode cX6_boards 134 = .ok (.getfield 140, 3) := by decide +kernel
theorem dX6_boards_137 : decode cX6_boards 137 = .ok (.istore 6, 2) := by decide +kernel
theorem dX6_boards_139 : decode cX6_boards 139 = .ok (.iinc 7 1, 3) := by decide +kernel
theorem dX6_boards_142 : decode cX6_boards 142 = .ok (.goto (-123), 3) := by decide +kernel
theorem dX6_boards_145 : decode cX6_boards 145 = .ok (.iload 4, 2) := by decide +kernel
theorem dX6_boards_147 : decode cX6_boards 147 = .ok (.iconst (-1), 1) := by decide +kernel
theorem dX6_boards_148 : decode cX6_boards 148 = .ok (.if_icmp .ne 5, 3) := by decide +kernel
theorem dX6_boards_151 : decode cX6_boards 151 = .ok (.iconst 0, 1) := by decide +kernel
theorem dX6_boards_152 : decode cX6_boards 152 = .ok (.ireturn, 1) := by decide +kernel
theorem dX6_boards_153 : decode cX6_boards 153 = .ok (.aload_n 0, 1) := by decide +kernel
theorem dX6_boards_154 : decode cX6_boards 154 = .ok (.iload_n 1, 1) := by decide +kernel
theorem dX6_boards_155 : decode cX6_boards 155 = .ok (.iconst 4, 1) := by decide +kernel
theorem dX6_boards_156 : decode cX6_boards 156 = .ok (.iconst 3, 1) := by decide +kernel
theorem dX6_boards_157 : decode cX6_boards 157 = .ok (.invokevirtual 108, 3) := by decide +kernel
theorem dX6_boards_160 : decode cX6_boards 160 = .ok (.aload_n 0, 1) := by decide +kernel
theorem dX6_boards_161 : decode cX6_boards 161 = .ok (.iload_n 1, 1) := by decide +kernel
theorem dX6_boards_162 : decode cX6_boards 162 = .ok (.bipush 6, 2) := by decide +kernel
theorem dX6_boards_164 : decode cX6_boards 164 = .ok (.iload 4, 2) := by decide +kernel
theorem dX6_boards_166 : decode cX6_boards 166 = .ok (.aload_n 0, 1) := by decide +kernel
theorem dX6_boards_167 : decode cX6_boards 167 = .ok (.getfield 13, 3) := by decide +kernel
theorem dX6_boards_170 : decode cX6_boards 170 = .ok (.iload_n 3, 1) := by decide +kernel
theorem dX6_boards_171 : decode cX6_boards 171 = .ok (.iaload, 1) := by decide +kernel
theorem dX6_boards_172 : decode cX6_boards 172 = .ok (.idiv, 1) := by decide +kernel
theorem dX6_boards_173 : decode cX6_boards 173 = .ok (.invokevirtual 108, 3) := by decide +kernel
theorem dX6_boards_176 : decode cX6_boards 176 = .ok (.aload_n 0, 1) := by decide +kernel
theorem dX6_boards_177 : decode cX6_boards 177 = .ok (.iload_n 1, 1) := by decide +kernel
theorem dX6_boards_178 : decode cX6_boards 178 = .ok (.bipush 7, 2) := by decide +kernel
theorem dX6_boards_180 : decode cX6_boards 180 = .ok (.iload 4, 2) := by decide +kernel
theorem dX6_boards_182 : decode cX6_boards 182 = .ok (.aload_n 0, 1) := by decide +kernel
theorem dX6_boards_183 : decode cX6_boards 183 = .ok (.getfield 13, 3) := by decide +kernel
theorem dX6_boards_186 : decode cX6_boards 186 = .ok (.iload_n 3, 1) := by decide +kernel
theorem dX6_boards_187 : decode cX6_boards 187 = .ok (.iaload, 1) := by decide +kernel
theorem dX6_boards_188 : decode cX6_boards 188 = .ok (.irem, 1) := by decide +kernel
theorem dX6_boards_189 : decode cX6_boards 189 = .ok (.invokevirtual 108, 3) := by decide +kernel
theorem dX6_boards_192 : decode cX6_boards 192 = .ok (.aload_n 0, 1) := by decide +kernel
theorem dX6_boards_193 : decode cX6_boards 193 = .ok (.iload_n 1, 1) := by decide +kernel
theorem dX6_boards_194 : decode cX6_boards 194 = .ok (.bipush 8, 2) := by decide +kernel
theorem dX6_boards_196 : decode cX6_boards 196 = .ok (.iload 6, 2) := by decide +kernel
theorem dX6_boards_198 : decode cX6_boards 198 = .ok (.invokevirtual 108, 3) := by decide +kernel
theorem dX6_boards_201 : decode cX6_boards 201 = .ok (.aload_n 0, 1) := by decide +kernel
theorem dX6_boards_202 : decode cX6_boards 202 = .ok (.getfield 59, 3) := by decide +kernel
theorem dX6_boards_205 : decode cX6_boards 205 = .ok (.iload_n 1, 1) := by decide +kernel
theorem dX6_boards_206 : decode cX6_boards 206 = .ok (.aload_n 0, 1) := by decide +kernel
theorem dX6_boards_207 : decode cX6_boards 207 = .ok (.getfield 154, 3) := by decide +kernel
theorem dX6_boards_210 : decode cX6_boards 210 = .ok (.iastore, 1) := by decide +kernel
theorem dX6_boards_211 : decode cX6_boards 211 = .ok (.aload_n 0, 1) := by decide +kernel
theorem dX6_boards_212 : decode cX6_boards 212 = .ok (.dup, 1) := by decide +kernel
theorem dX6_boards_213 : decode cX6_boards 213 = .ok (.getfield 154, 3) := by decide +kernel
theorem dX6_boards_216 : decode cX6_boards 216 = .ok (.iconst 1, 1) := by decide +kernel
theorem dX6_boards_217 : decode cX6_boards 217 = .ok (.iadd, 1) := by decide +kernel
theorem dX6_boards_218 : decode cX6_boards 218 = .ok (.putfield 154, 3) := by decide +kernel
theorem dX6_boards_221 : decode cX6_boards 221 = .ok (.iconst 1, 1) := by decide +kernel
theorem dX6_boards_222 : decode cX6_boards 222 = .ok (.ireturn, 1) := by decide +kernel
set_option maxRecDepth 20000 in
theorem ggX6_comesOff_X6_put : GoodIn wsX6_comesOff wsX6_put := goodIn_r _ [5, 6, 7, 8, 9, 10, 11, 12, 13, 14, 15, 16, 17, 18, 19, 20, 21, 22, 23, 24, 25, 26, 27, 28, 29, 30, 31, 32, 33, 34, 35, 36, 37] (by decide +kernel) (by decide +kernel)
end
section
set_option maxRecDepth 20000 in
theorem gX6_comesOff_X6_put : GoodIn wsX6_comesOff (wsV RX6 108 RX6 yX6_put wsX6_put) := goodIn_app (goodIn_of _ (by decide +kernel)) ggX6_comesOff_X6_put
theorem dX6_comesOff_0 : decode cX6_comesOff 0 = .ok (.aload_n 0, 1) := by decide +kernel
theorem dX6_comesOff_1 : decode cX6_comesOff 1 = .ok (.iload_n 1, 1) := by decide +kernel
theorem dX6_comesOff_2 : decode cX6_comesOff 2 = .ok (.iconst 4, 1) := by decide +kernel
theorem dX6_comesOff_3 : decode cX6_comesOff 3 = .ok (.iconst 2, 1) := by decide +kernel
theorem dX6_comesOff_4 : decode cX6_comesOff 4 = .ok (.invokevirtual 108, 3) := by decide +kernel
theorem dX6_comesOff_7 : decode cX6_comesOff 7 = .ok (.aload_n 0, 1) := by decide +kernel
theorem dX6_comesOff_8 : decode cX6_comesOff 8 = .ok (.iload_n 1, 1) := by decide +kernel
theorem dX6_comesOff_9 : decode cX6_comesOff 9 = .ok (.bipush 6, 2) := by decide +kernel
theorem dX6_comesOff_11 : decode cX6_comesOff 11 = .ok (.iconst (-1), 1) := by decide +kernel
theorem dX6_comesOff_12 : decode cX6_comesOff 12 = .ok (.invokevirtual 108, 3) := by decide +kernel
theorem dX6_comesOff_15 : decode cX6_comesOff 15 = .ok (.aload_n 0, 1) := by decide +kernel
theorem dX6_comesOff_16 : decode cX6_comesOff 16 = .ok (.iload_n 1, 1) := by decide +kernel
theorem dX6_comesOff_17 : decode cX6_comesOff 17 = .ok (.bipush 7, 2) := by decide +kernel
theorem dX6_comesOff_19 : decode cX6_comesOff 19 = .ok (.iconst (-1), 1) := by decide +kernel
theorem dX6_comesOff_20 : decode cX6_comesOff 20 = .ok (.invokevirtual 108, 3) := by decide +kernel
theorem dX6_comesOff_23 : decode cX6_comesOff 23 = .ok (.aload_n 0, 1) := by decide +kernel
theorem dX6_comesOff_24 : decode cX6_comesOff 24 = .ok (.iload_n 1, 1) := by decide +kernel
theorem dX6_comesOff_25 : decode cX6_comesOff 25 = .ok (.bipush 8, 2) := by decide +kernel
theorem dX6_comesOff_27 : decode cX6_comesOff 27 = .ok (.iconst (-1), 1) := by decide +kernel
theorem dX6_comesOff_28 : decode cX6_comesOff 28 = .ok (.invokevirtual 108, 3) := by decide +kernel
theorem dX6_comesOff_31 : decode cX6_comesOff 31 = .ok (.aload_n 0, 1) := by decide +kernel
theorem dX6_comesOff_32 : decode cX6_comesOff 32 = .ok (.iload_n 1, 1) := by decide +kernel
theorem dX6_comesOff_33 : decode cX6_comesOff 33 = .ok (.bipush 9, 2) := by decide +kernel
theorem dX6_comesOff_35 : decode cX6_comesOff 35 = .ok (.iconst (-1), 1) := by decide +kernel
theorem dX6_comesOff_36 : decode cX6_comesOff 36 = .ok (.invokevirtual 108, 3) := by decide +kernel
theorem dX6_comesOff_39 : decode cX6_comesOff 39 = .ok (.return_, 1) := by decide +kernel
set_option maxRecDepth 20000 in
theorem ggX6_cabinFor_X6_of : GoodIn wsX6_cabinFor wsX6_of := goodIn_r _ [10, 11, 16, 17, 18, 19, 20, 21, 22, 23, 24, 25, 26, 27, 28, 29, 30, 31, 32, 33, 34, 35, 36, 37, 38, 39, 40, 41, 42, 43, 44, 45, 46] (by decide +kernel) (by decide +kernel)
set_option maxRecDepth 20000 in
theorem gX6_cabinFor_X6_of : GoodIn wsX6_cabinFor (wsV RX6 115 RX6 yX6_of wsX6_of) := goodIn_app (goodIn_of _ (by decide +kernel)) ggX6_cabinFor_X6_of
set_option maxRecDepth 20000 in
theorem ggX6_cabinFor_X6_isAboard : GoodIn wsX6_cabinFor wsX6_isAboard := goodIn_r _ [15, 6, 7, 8, 9, 10, 11, 16, 17, 18, 19, 20, 21, 22, 23, 24, 25, 26, 27, 28, 29, 30, 31, 32, 33, 34, 35, 36, 37, 38, 39, 40, 41, 42, 43, 44, 45, 46] (by decide +kernel) (by decide +kernel)
set_option maxRecDepth 20000 in
theorem gX6_cabinFor_X6_isAboard : GoodIn wsX6_cabinFor (wsV RX6 130 RX6 yX6_isAboard wsX6_isAboard) := goodIn_app (goodIn_of _ (by decide +kernel)) ggX6_cabinFor_X6_isAboard
theorem dX6_cabinFor_0 : decode cX6_cabinFor 0 = .ok (.iconst 0, 1) := by decide +kernel
theorem dX6_cabinFor_1 : decode cX6_cabinFor 1 = .ok (.istore_n 3, 1) := by decide +kernel
theorem dX6_cabinFor_2 : decode cX6_cabinFor 2 = .ok (.iload_n 3, 1) := by decide +kernel
theorem dX6_cabinFor_3 : decode cX6_cabinFor 3 = .ok (.aload_n 0, 1) := by decide +kernel
theorem dX6_cabinFor_4 : decode cX6_cabinFor 4 = .ok (.getfield 92, 3) := by decide +kernel
theorem dX6_cabinFor_7 : decode cX6_cabinFor 7 = .ok (.if_icmp .ge 105, 3) := by decide +kernel
theorem dX6_cabinFor_10 : decode cX6_cabinFor 10 = .ok (.aload_n 0, 1) := by decide +kernel
theorem dX6_cabinFor_11 : decode cX6_cabinFor 11 = .ok (.getfield 23, 3) := by decide +kernel
theorem dX6_cabinFor_14 : decode cX6_cabinFor 14 = .ok (.iload_n 3, 1) := by decide +kernel
theorem dX6_cabinFor_15 : decode cX6_cabinFor 15 = .ok (.iaload, 1) := by decide +kernel
theorem dX6_cabinFor_16 : decode cX6_cabinFor 16 = .ok (.aload_n 0, 1) := by decide +kernel
theorem dX6_cabinFor_17 : decode cX6_cabinFor 17 = .ok (.getfield 29, 3) := by decide +kernel
theorem dX6_cabinFor_20 : decode cX6_cabinFor 20 = .ok (.iload_n 2, 1) := by decide +kernel
theorem dX6_cabinFor_21 : decode cX6_cabinFor 21 = .ok (.iaload, 1) := by decide +kernel
theorem dX6_cabinFor_22 : decode cX6_cabinFor 22 = .ok (.if_icmp .ne 22, 3) := by decide +kernel
theorem dX6_cabinFor_25 : decode cX6_cabinFor 25 = .ok (.aload_n 0, 1) := by decide +kernel
theorem dX6_cabinFor_26 : decode cX6_cabinFor 26 = .ok (.getfield 26, 3) := by decide +kernel
theorem dX6_cabinFor_29 : decode cX6_cabinFor 29 = .ok (.iload_n 3, 1) := by decide +kernel
theorem dX6_cabinFor_30 : decode cX6_cabinFor 30 = .ok (.iaload, 1) := by decide +kernel
theorem dX6_cabinFor_31 : decode cX6_cabinFor 31 = .ok (.aload_n 0, 1) := by decide +kernel
theorem dX6_cabinFor_32 : decode cX6_cabinFor 32 = .ok (.iload_n 1, 1) := by decide +kernel
theorem dX6_cabinFor_33 : decode cX6_cabinFor 33 = .ok (.iconst 3, 1) := by decide +kernel
theorem dX6_cabinFor_34 : decode cX6_cabinFor 34 = .ok (.invokevirtual 115, 3) := by decide +kernel
theorem dX6_cabinFor_37 : decode cX6_cabinFor 37 = .ok (.if_icmp .lt 7, 3) := by decide +kernel
theorem dX6_cabinFor_40 : decode cX6_cabinFor 40 = .ok (.iconst 1, 1) := by decide +kernel
theorem dX6_cabinFor_41 : decode cX6_cabinFor 41 = .ok (.goto 4, 3) := by decide +kernel
theorem dX6_cabinFor_44 : decode cX6_cabinFor 44 = .ok (.iconst 0, 1) := by decide +kernel
theorem dX6_cabinFor_45 : decode cX6_cabinFor 45 = .ok (.istore 4, 2) := by decide +kernel
theorem dX6_cabinFor_47 : decode cX6_cabinFor 47 = .ok (.iconst 0, 1) := by decide +kernel
theorem dX6_cabinFor_48 : decode cX6_cabinFor 48 = .ok (.istore 5, 2) := by decide +kernel
theorem dX6_cabinFor_50 : decode cX6_cabinFor 50 = .ok (.iload 5, 2) := by decide +kernel
theorem dX6_cabinFor_52 : decode cX6_cabinFor 52 = .ok (.aload_n 0, 1) := by decide +kernel
theorem dX6_cabinFor_53 : decode cX6_cabinFor 53 = .ok (.getfield 74, 3) := by decide +kernel
theorem dX6_cabinFor_56 : decode cX6_cabinFor 56 = .ok (.if_icmp .ge 43, 3) := by decide +kernel
theorem dX6_cabinFor_59 : decode cX6_cabinFor 59 = .ok (.iload 4, 2) := by decide +kernel
theorem dX6_cabinFor_61 : decode cX6_cabinFor 61 = .ok (.ifCond .eq 38, 3) := by decide +kernel
theorem dX6_cabinFor_64 : decode cX6_cabinFor 64 = .ok (.aload_n 0, 1) := by decide +kernel
theorem dX6_cabinFor_65 : decode cX6_cabinFor 65 = .ok (.iload 5, 2) := by decide +kernel
theorem dX6_cabinFor_67 : decode cX6_cabinFor 67 = .ok (.iload_n 2, 1) := by decide +kernel
theorem dX6_cabinFor_68 : decode cX6_cabinFor 68 = .ok (.invokevirtual 130, 3) := by decide +kernel
theorem dX6_cabinFor_71 : decode cX6_cabinFor 71 = .ok (.ifCond .eq 15, 3) := by decide +kernel
theorem dX6_cabinFor_74 : decode cX6_cabinFor 74 = .ok (.aload_n 0, 1) := by decide +kernel
theorem dX6_cabinFor_75 : decode cX6_cabinFor 75 = .ok (.iload 5, 2) := by decide +kernel
theorem dX6_cabinFor_77 : decode cX6_cabinFor 77 = .ok (.bipush 9, 2) := by decide +kernel
theorem dX6_cabinFor_79 : decode cX6_cabinFor 79 = .ok (.invokevirtual 115, 3) := by decide +kernel
theorem dX6_cabinFor_82 : decode cX6_cabinFor 82 = .ok (.iload_n 3, 1) := by decide +kernel
theorem dX6_cabinFor_83 : decode cX6_cabinFor 83 = .ok (.if_icmp .eq 7, 3) := by decide +kernel
theorem dX6_cabinFor_86 : decode cX6_cabinFor 86 = .ok (.iconst 1, 1) := by decide +kernel
theorem dX6_cabinFor_87 : decode cX6_cabinFor 87 = .ok (.goto 4, 3) := by decide +kernel
theorem dX6_cabinFor_90 : decode cX6_cabinFor 90 = .ok (.iconst 0, 1) := by decide +kernel
theorem dX6_cabinFor_91 : decode cX6_cabinFor 91 = .ok (.istore 4, 2) := by decide +kernel
theorem dX6_cabinFor_93 : decode cX6_cabinFor 93 = .ok (.iinc 5 1, 3) := by decide +kernel
theorem dX6_cabinFor_96 : decode cX6_cabinFor 96 = .ok (.goto (-46), 3) := by decide +kernel
theorem dX6_cabinFor_99 : decode cX6_cabinFor 99 = .ok (.iload 4, 2) := by decide +kernel
theorem dX6_cabinFor_101 : decode cX6_cabinFor 101 = .ok (.ifCond .eq 5, 3) := by decide +kernel
theorem dX6_cabinFor_104 : decode cX6_cabinFor 104 = .ok (.iload_n 3, 1) := by decide +kernel
theorem dX6_cabinFor_105 : decode cX6_cabinFor 105 = .ok (.ireturn, 1) := by decide +kernel
theorem dX6_cabinFor_106 : decode cX6_cabinFor 106 = .ok (.iinc 3 1, 3) := by decide +kernel
theorem dX6_cabinFor_109 : decode cX6_cabinFor 109 = .ok (.goto (-107), 3) := by decide +kernel
theorem dX6_cabinFor_112 : decode cX6_cabinFor 112 = .ok (.iconst (-1), 1) := by decide +kernel
theorem dX6_cabinFor_113 : decode cX6_cabinFor 113 = .ok (.ireturn, 1) := by decide +kernel
set_option maxRecDepth 20000 in
theorem ggX6_nextTurn_X6_recallTurn : GoodIn wsX6_nextTurn wsX6_recallTurn := goodIn_r _ [10, 4, 1, 11, 12, 13, 14, 9, 15, 16, 17, 18, 19, 20, 30, 31, 32, 33, 34, 35, 36, 37, 38, 39, 40, 41, 42, 43, 44, 45, 46, 47, 48, 49, 50, 51, 52, 53, 54, 55, 56, 57, 58, 59, 60] (by decide +kernel) (by decide +kernel)
set_option maxRecDepth 20000 in
theorem gX6_nextTurn_X6_recallTurn : GoodIn wsX6_nextTurn (wsV RX6 160 RX6 yX6_recallTurn wsX6_recallTurn) := goodIn_app (goodIn_of _ (by decide +kernel)) ggX6_nextTurn_X6_recallTurn
set_option maxRecDepth 20000 in
theorem ggX6_nextTurn_X6_of : GoodIn wsX6_nextTurn wsX6_of := goodIn_r _ [19, 20, 30, 31, 32, 33, 34, 35, 36, 37, 38, 39, 40, 41, 42, 43, 44, 45, 46, 47, 48, 49, 50, 51, 52, 53, 54, 55, 56, 57, 58, 59, 60] (by decide +kernel) (by decide +kernel)
set_option maxRecDepth 20000 in
theorem gX6_nextTurn_X6_of : GoodIn wsX6_nextTurn (wsV RX6 115 RX6 yX6_of wsX6_of) := goodIn_app (goodIn_of _ (by decide +kernel)) ggX6_nextTurn_X6_of
set_option maxRecDepth 20000 in
theorem ggX6_nextTurn_X6_isAhead : GoodIn wsX6_nextTurn wsX6_isAhead := goodIn_r _ [24, 25, 26, 27, 9, 28, 29, 16, 17, 18, 19, 20, 30, 31, 32, 33, 34, 35, 36, 37, 38, 39, 40, 41, 42, 43, 44, 45, 46, 47, 48, 49, 50, 51, 52, 53, 54, 55, 56, 57, 58, 59, 60] (by decide +kernel) (by decide +kernel)
set_option maxRecDepth 20000 in
theorem gX6_nextTurn_X6_isAhead : GoodIn wsX6_nextTurn (wsV RX6 163 RX6 yX6_isAhead wsX6_isAhead) := goodIn_app (goodIn_of _ (by decide +kernel)) ggX6_nextTurn_X6_isAhead
theorem dX6_nextTurn_0 : decode cX6_nextTurn 0 = .ok (.aload_n 0, 1) := by decide +kernel
theorem dX6_nextTurn_1 : decode cX6_nextTurn 1 = .ok (.iconst (-1), 1) := by decide +kernel
theorem dX6_nextTurn_2 : decode cX6_nextTurn 2 = .ok (.putfield 157, 3) := by decide +kernel
theorem dX6_nextTurn_5 : decode cX6_nextTurn 5 = .ok (.aload_n 0, 1) := by decide +kernel
theorem dX6_nextTurn_6 : decode cX6_nextTurn 6 = .ok (.getfield 38, 3) := by decide +kernel
theorem dX6_nextTurn_9 : decode cX6_nextTurn 9 = .ok (.iload_n 1, 1) := by decide +kernel
theorem dX6_nextTurn_10 : decode cX6_nextTurn 10 = .ok (.iaload, 1) := by decide +kernel
theorem dX6_nextTurn_11 : decode cX6_nextTurn 11 = .ok (.iconst 1, 1) := by decide +kernel
theorem dX6_nextTurn_12 : decode cX6_nextTurn 12 = .ok (.if_icmp .eq 5, 3) := by decide +kernel
theorem dX6_nextTurn_15 : decode cX6_nextTurn 15 = .ok (.iconst 0, 1) := by decide +kernel
theorem dX6_nextTurn_16 : decode cX6_nextTurn 16 = .ok (.ireturn, 1) := by decide +kernel
theorem dX6_nextTurn_17 : decode cX6_nextTurn 17 = .ok (.aload_n 0, 1) := by decide +kernel
theorem dX6_nextTurn_18 : decode cX6_nextTurn 18 = .ok (.getfield 53, 3) := by decide +kernel
theorem dX6_nextTurn_21 : decode cX6_nextTurn 21 = .ok (.iload_n 1, 1) := by decide +kernel
theorem dX6_nextTurn_22 : decode cX6_nextTurn 22 = .ok (.baload, 1) := by decide +kernel
theorem dX6_nextTurn_23 : decode cX6_nextTurn 23 = .ok (.ifCond .eq 9, 3) := by decide +kernel
theorem dX6_nextTurn_26 : decode cX6_nextTurn 26 = .ok (.aload_n 0, 1) := by decide +kernel
theorem dX6_nextTurn_27 : decode cX6_nextTurn 27 = .ok (.iload_n 1, 1) := by decide +kernel
theorem dX6_nextTurn_28 : decode cX6_nextTurn 28 = .ok (.invokevirtual 160, 3) := by decide +kernel
theorem dX6_nextTurn_31 : decode cX6_nextTurn 31 = .ok (.ireturn, 1) := by decide +kernel
theorem dX6_nextTurn_32 : decode cX6_nextTurn 32 = .ok (.iconst 0, 1) := by decide +kernel
theorem dX6_nextTurn_33 : decode cX6_nextTurn 33 = .ok (.istore_n 2, 1) := by decide +kernel
theorem dX6_nextTurn_34 : decode cX6_nextTurn 34 = .ok (.iload_n 2, 1) := by decide +kernel
theorem dX6_nextTurn_35 : decode cX6_nextTurn 35 = .ok (.aload_n 0, 1) := by decide +kernel
theorem dX6_nextTurn_36 : decode cX6_nextTurn 36 = .ok (.getfield 74, 3) := by decide +kernel
theorem dX6_nextTurn_39 : decode cX6_nextTurn 39 = .ok (.if_icmp .ge 60, 3) := by decide +kernel
theorem dX6_nextTurn_42 : decode cX6_nextTurn 42 = .ok (.aload_n 0, 1) := by decide +kernel
theorem dX6_nextTurn_43 : decode cX6_nextTurn 43 = .ok (.iload_n 2, 1) := by decide +kernel
theorem dX6_nextTurn_44 : decode cX6_nextTurn 44 = .ok (.iconst 0, 1) := by decide +kernel
theorem dX6_nextTurn_45 : decode cX6_nextTurn 45 = .ok (.invokevirtual 115, 3) := by decide +kernel
theorem dX6_nextTurn_48 : decode cX6_nextTurn 48 = .ok (.iload_n 1, 1) := by decide +kernel
theorem dX6_nextTurn_49 : decode cX6_nextTurn 49 = .ok (.if_icmp .ne 44, 3) := by decide +kernel
theorem dX6_nextTurn_52 : decode cX6_nextTurn 52 = .ok (.aload_n 0, 1) := by decide +kernel
theorem dX6_nextTurn_53 : decode cX6_nextTurn 53 = .ok (.iload_n 2, 1) := by decide +kernel
theorem dX6_nextTurn_54 : decode cX6_nextTurn 54 = .ok (.iconst 4, 1) := by decide +kernel
theorem dX6_nextTurn_55 : decode cX6_nextTurn 55 = .ok (.invokevirtual 115, 3) := by decide +kernel
theorem dX6_nextTurn_58 : decode cX6_nextTurn 58 = .ok (.iconst 1, 1) := by decide +kernel
theorem dX6_nextTurn_59 : decode cX6_nextTurn 59 = .ok (.if_icmp .ne 34, 3) := by decide +kernel
theorem dX6_nextTurn_62 : decode cX6_nextTurn 62 = .ok (.aload_n 0, 1) := by decide +kernel
theorem dX6_nextTurn_63 : decode cX6_nextTurn 63 = .ok (.getfield 157, 3) := by decide +kernel
theorem dX6_nextTurn_66 : decode cX6_nextTurn 66 = .ok (.iconst (-1), 1) := by decide +kernel
theorem dX6_nextTurn_67 : decode cX6_nextTurn 67 = .ok (.if_icmp .eq 21, 3) := by decide +kernel
theorem dX6_nextTurn_70 : decode cX6_nextTurn 70 = .ok (.aload_n 0, 1) := by decide +kernel
theorem dX6_nextTurn_71 : decode cX6_nextTurn 71 = .ok (.iload_n 2, 1) := by decide +kernel
theorem dX6_nextTurn_72 : decode cX6_nextTurn 72 = .ok (.iconst 5, 1) := by decide +kernel
theorem dX6_nextTurn_73 : decode cX6_nextTurn 73 = .ok (.invokevirtual 115, 3) := by decide +kernel
theorem dX6_nextTurn_76 : decode cX6_nextTurn 76 = .ok (.aload_n 0, 1) := by decide +kernel
theorem dX6_nextTurn_77 : decode cX6_nextTurn 77 = .ok (.aload_n 0, 1) := by decide +kernel
theorem dX6_nextTurn_78 : decode cX6_nextTurn 78 = .ok (.getfield 157, 3) := by decide +kernel
theorem dX6_nextTurn_81 : decode cX6_nextTurn 81 = .ok (.iconst 5, 1) := by decide +kernel
theorem dX6_nextTurn_82 : decode cX6_nextTurn 82 = .ok (.invokevirtual 115, 3) := by decide +kernel
theorem dX6_nextTurn_85 : decode cX6_nextTurn 85 = .ok (.if_icmp .ge 8, 3) := by decide +kernel
theorem dX6_nextTurn_88 : decode cX6_nextTurn 88 = .ok (.aload_n 0, 1) := by decide +kernel
theorem dX6_nextTurn_89 : decode cX6_nextTurn 89 = .ok (.iload_n 2, 1) := by decide +kernel
theorem dX6_nextTurn_90 : decode cX6_nextTurn 90 = .ok (.putfield 157, 3) := by decide +kernel
theorem dX6_nextTurn_93 : decode cX6_nextTurn 93 = .ok (.iinc 2 1, 3) := by decide +kernel
theorem dX6_nextTurn_96 : decode cX6_nextTurn 96 = .ok (.goto (-62), 3) := by decide +kernel
theorem dX6_nextTurn_99 : decode cX6_nextTurn 99 = .ok (.aload_n 0, 1) := by decide +kernel
theorem dX6_nextTurn_100 : decode cX6_nextTurn 100 = .ok (.getfield 157, 3) := by decide +kernel
theorem dX6_nextTurn_103 : decode cX6_nextTurn 103 = .ok (.iconst (-1), 1) := by decide +kernel
theorem dX6_nextTurn_104 : decode cX6_nextTurn 104 = .ok (.if_icmp .eq 5, 3) := by decide +kernel
theorem dX6_nextTurn_107 : decode cX6_nextTurn 107 = .ok (.iconst 1, 1) := by decide +kernel
theorem dX6_nextTurn_108 : decode cX6_nextTurn 108 = .ok (.ireturn, 1) := by decide +kernel
theorem dX6_nextTurn_109 : decode cX6_nextTurn 109 = .ok (.aload_n 0, 1) := by decide +kernel
theorem dX6_nextTurn_110 : decode cX6_nextTurn 110 = .ok (.getfield 47, 3) := by decide +kernel
theorem dX6_nextTurn_113 : decode cX6_nextTurn 113 = .ok (.iload_n 1, 1) := by decide +kernel
theorem dX6_nextTurn_114 : decode cX6_nextTurn 114 = .ok (.iaload, 1) := by decide +kernel
theorem dX6_nextTurn_115 : decode cX6_nextTurn 115 = .ok (.iconst (-1), 1) := by decide +kernel
theorem dX6_nextTurn_116 : decode cX6_nextTurn 116 = .ok (.if_icmp .eq 15, 3) := by decide +kernel
theorem dX6_nextTurn_119 : decode cX6_nextTurn 119 = .ok (.aload_n 0, 1) := by decide +kernel
theorem dX6_nextTurn_120 : decode cX6_nextTurn 120 = .ok (.aload_n 0, 1) := by decide +kernel
theorem dX6_nextTurn_121 : decode cX6_nextTurn 121 = .ok (.getfield 47, 3) := by decide +kernel
theorem dX6_nextTurn_124 : decode cX6_nextTurn 124 = .ok (.iload_n 1, 1) := by decide +kernel
theorem dX6_nextTurn_125 : decode cX6_nextTurn 125 = .ok (.iaload, 1) := by decide +kernel
theorem dX6_nextTurn_126 : decode cX6_nextTurn 126 = .ok (.putfield 157, 3) := by decide +kernel
theorem dX6_nextTurn_129 : decode cX6_nextTurn 129 = .ok (.iconst 2, 1) := by decide +kernel
theorem dX6_nextTurn_130 : decode cX6_nextTurn 130 = .ok (.ireturn, 1) := by decide +kernel
theorem dX6_nextTurn_131 : decode cX6_nextTurn 131 = .ok (.iconst 0, 1) := by decide +kernel
theorem dX6_nextTurn_132 : decode cX6_nextTurn 132 = .ok (.istore_n 2, 1) := by decide +kernel
theorem dX6_nextTurn_133 : decode cX6_nextTurn 133 = .ok (.iload_n 2, 1) := by decide +kernel
theorem dX6_nextTurn_134 : decode cX6_nextTurn 134 = .ok (.aload_n 0, 1) := by decide +kernel
theorem dX6_nextTurn_135 : decode cX6_nextTurn 135 = .ok (.getfield 74, 3) := by decide +kernel
theorem dX6_nextTurn_138 : decode cX6_nextTurn 138 = .ok (.if_icmp .ge 55, 3) := by decide +kernel
theorem dX6_nextTurn_141 : decode cX6_nextTurn 141 = .ok (.aload_n 0, 1) := by decide +kernel
theorem dX6_nextTurn_142 : decode cX6_nextTurn 142 = .ok (.iload_n 2, 1) := by decide +kernel
theorem dX6_nextTurn_143 : decode cX6_nextTurn 143 = .ok (.iconst 0, 1) := by decide +kernel
theorem dX6_nextTurn_144 : decode cX6_nextTurn 144 = .ok (.invokevirtual 115, 3) := by decide +kernel
theorem dX6_nextTurn_147 : decode cX6_nextTurn 147 = .ok (.iload_n 1, 1) := by decide +kernel
theorem dX6_nextTurn_148 : decode cX6_nextTurn 148 = .ok (.if_icmp .ne 39, 3) := by decide +kernel
theorem dX6_nextTurn_151 : decode cX6_nextTurn 151 = .ok (.aload_n 0, 1) := by decide +kernel
theorem dX6_nextTurn_152 : decode cX6_nextTurn 152 = .ok (.iload_n 2, 1) := by decide +kernel
theorem dX6_nextTurn_153 : decode cX6_nextTurn 153 = .ok (.iconst 4, 1) := by decide +kernel
theorem dX6_nextTurn_154 : decode cX6_nextTurn 154 = .ok (.invokevirtual 115, 3) := by decide +kernel
theorem dX6_nextTurn_157 : decode cX6_nextTurn 157 = .ok (.iconst 2, 1) := by decide +kernel
theorem dX6_nextTurn_158 : decode cX6_nextTurn 158 = .ok (.if_icmp .ne 29, 3) := by decide +kernel
theorem dX6_nextTurn_161 : decode cX6_nextTurn 161 = .ok (.aload_n 0, 1) := by decide +kernel
theorem dX6_nextTurn_162 : decode cX6_nextTurn 162 = .ok (.getfield 157, 3) := by decide +kernel
theorem dX6_nextTurn_165 : decode cX6_nextTurn 165 = .ok (.iconst (-1), 1) := by decide +kernel
theorem dX6_nextTurn_166 : decode cX6_nextTurn 166 = .ok (.if_icmp .eq 16, 3) := by decide +kernel
theorem dX6_nextTurn_169 : decode cX6_nextTurn 169 = .ok (.aload_n 0, 1) := by decide +kernel
theorem dX6_nextTurn_170 : decode cX6_nextTurn 170 = .ok (.iload_n 2, 1) := by decide +kernel
theorem dX6_nextTurn_171 : decode cX6_nextTurn 171 = .ok (.aload_n 0, 1) := by decide +kernel
theorem dX6_nextTurn_172 : decode cX6_nextTurn 172 = .ok (.getfield 157, 3) := by decide +kernel
theorem dX6_nextTurn_175 : decode cX6_nextTurn 175 = .ok (.iload_n 1, 1) := by decide +kernel
theorem dX6_nextTurn_176 : decode cX6_nextTurn 176 = .ok (.invokevirtual 163, 3) := by decide +kernel
theorem dX6_nextTurn_179 : decode cX6_nextTurn 179 = .ok (.ifCond .eq 8, 3) := by decide +kernel
theorem dX6_nextTurn_182 : decode cX6_nextTurn 182 = .ok (.aload_n 0, 1) := by decide +kernel
theorem dX6_nextTurn_183 : decode cX6_nextTurn 183 = .ok (.iload_n 2, 1) := by decide +kernel
theorem dX6_nextTurn_184 : decode cX6_nextTurn 184 = .ok (.putfield 157, 3) := by decide +kernel
theorem dX6_nextTurn_187 : decode cX6_nextTurn 187 = .ok (.iinc 2 1, 3) := by decide +kernel
theorem dX6_nextTurn_190 : decode cX6_nextTurn 190 = .ok (.goto (-57), 3) := by decide +kernel
theorem dX6_nextTurn_193 : decode cX6_nextTurn 193 = .ok (.aload_n 0, 1) := by decide +kernel
theorem dX6_nextTurn_194 : decode cX6_nextTurn 194 = .ok (.getfield 157, 3) := by decide +kernel
theorem dX6_nextTurn_197 : decode cX6_nextTurn 197 = .ok (.iconst (-1), 1) := by decide +kernel
theorem dX6_nextTurn_198 : decode cX6_nextTurn 198 = .ok (.if_icmp .ne 7, 3) := by decide +kernel
theorem dX6_nextTurn_201 : decode cX6_nextTurn 201 = .ok (.iconst 0, 1) := by decide +kernel
theorem dX6_nextTurn_202 : decode cX6_nextTurn 202 = .ok (.goto 4, 3) := by decide +kernel
theorem dX6_nextTurn_205 : decode cX6_nextTurn 205 = .ok (.iconst 3, 1) := by decide +kernel
theorem dX6_nextTurn_206 : decode cX6_nextTurn 206 = .ok (.ireturn, 1) := by decide +kernel
set_option maxRecDepth 20000 in
theorem ggX6_recallTurn_X6_isAboard : GoodIn wsX6_recallTurn wsX6_isAboard := goodIn_r _ [8, 9, 10, 11, 7, 12, 13, 14, 15, 16, 17, 18, 19, 20, 21, 22, 23, 24, 25, 26, 27, 28, 29, 30, 31, 32, 33, 34, 35, 36, 37, 38, 39, 40, 41, 42, 43, 44] (by decide +kernel) (by decide +kernel)
set_option maxRecDepth 20000 in
theorem gX6_recallTurn_X6_isAboard : GoodIn wsX6_recallTurn (wsV RX6 130 RX6 yX6_isAboard wsX6_isAboard) := goodIn_app (goodIn_of _ (by decide +kernel)) ggX6_recallTurn_X6_isAboard
set_option maxRecDepth 20000 in
theorem ggX6_recallTurn_X6_of : GoodIn wsX6_recallTurn wsX6_of := goodIn_r _ [12, 13, 14, 15, 16, 17, 18, 19, 20, 21, 22, 23, 24, 25, 26, 27, 28, 29, 30, 31, 32, 33, 34, 35, 36, 37, 38, 39, 40, 41, 42, 43, 44] (by decide +kernel) (by decide +kernel)
set_option maxRecDepth 20000 in
theorem gX6_recallTurn_X6_of : GoodIn wsX6_recallTurn (wsV RX6 115 RX6 yX6_of wsX6_of) := goodIn_app (goodIn_of _ (by decide +kernel)) ggX6_recallTurn_X6_of
theorem dX6_recallTurn_0 : decode cX6_recallTurn 0 = .ok (.iconst 0, 1) := by decide +kernel
theorem dX6_recallTurn_1 : decode cX6_recallTurn 1 = .ok (.istore_n 2, 1) := by decide +kernel
theorem dX6_recallTurn_2 : decode cX6_recallTurn 2 = .ok (.iload_n 2, 1) := by decide +kernel
theorem dX6_recallTurn_3 : decode cX6_recallTurn 3 = .ok (.aload_n 0, 1) := by decide +kernel
theorem dX6_recallTurn_4 : decode cX6_recallTurn 4 = .ok (.getfield 74, 3) := by decide +kernel
theorem dX6_recallTurn_7 : decode cX6_recallTurn 7 = .ok (.if_icmp .ge 49, 3) := by decide +kernel
theorem dX6_recallTurn_10 : decode cX6_recallTurn 10 = .ok (.aload_n 0, 1) := by decide +kernel
theorem dX6_recallTurn_11 : decode cX6_recallTurn 11 = .ok (.iload_n 2, 1) := by decide +kernel
theorem dX6_recallTurn_12 : decode cX6_recallTurn 12 = .ok (.iload_n 1, 1) := by decide +kernel
theorem dX6_recallTurn_13 : decode cX6_recallTurn 13 = .ok (.invokevirtual 130, 3) := by decide +kernel
theorem dX6_recallTurn_16 : decode cX6_recallTurn 16 = .ok (.ifCond .eq 34, 3) := by decide +kernel
theorem dX6_recallTurn_19 : decode cX6_recallTurn 19 = .ok (.aload_n 0, 1) := by decide +kernel
theorem dX6_recallTurn_20 : decode cX6_recallTurn 20 = .ok (.getfield 157, 3) := by decide +kernel
theorem dX6_recallTurn_23 : decode cX6_recallTurn 23 = .ok (.iconst (-1), 1) := by decide +kernel
theorem dX6_recallTurn_24 : decode cX6_recallTurn 24 = .ok (.if_icmp .eq 21, 3) := by decide +kernel
theorem dX6_recallTurn_27 : decode cX6_recallTurn 27 = .ok (.aload_n 0, 1) := by decide +kernel
theorem dX6_recallTurn_28 : decode cX6_recallTurn 28 = .ok (.getfield 59, 3) := by decide +kernel
theorem dX6_recallTurn_31 : decode cX6_recallTurn 31 = .ok (.iload_n 2, 1) := by decide +kernel
theorem dX6_recallTurn_32 : decode cX6_recallTurn 32 = .ok (.iaload, 1) := by decide +kernel
theorem dX6_recallTurn_33 : decode cX6_recallTurn 33 = .ok (.aload_n 0, 1) := by decide +kernel
theorem dX6_recallTurn_34 : decode cX6_recallTurn 34 = .ok (.getfield 59, 3) := by decide +kernel
theorem dX6_recallTurn_37 : decode cX6_recallTurn 37 = .ok (.aload_n 0, 1) := by decide +kernel
theorem dX6_recallTurn_38 : decode cX6_recallTurn 38 = .ok (.getfield 157, 3) := by decide +kernel
theorem dX6_recallTurn_41 : decode cX6_recallTurn 41 = .ok (.iaload, 1) := by decide +kernel
theorem dX6_recallTurn_42 : decode cX6_recallTurn 42 = .ok (.if_icmp .le 8, 3) := by decide +kernel
theorem dX6_recallTurn_45 : decode cX6_recallTurn 45 = .ok (.aload_n 0, 1) := by decide +kernel
theorem dX6_recallTurn_46 : decode cX6_recallTurn 46 = .ok (.iload_n 2, 1) := by decide +kernel
theorem dX6_recallTurn_47 : decode cX6_recallTurn 47 = .ok (.putfield 157, 3) := by decide +kernel
theorem dX6_recallTurn_50 : decode cX6_recallTurn 50 = .ok (.iinc 2 1, 3) := by decide +kernel
theorem dX6_recallTurn_53 : decode cX6_recallTurn 53 = .ok (.goto (-51), 3) := by decide +kernel
theorem dX6_recallTurn_56 : decode cX6_recallTurn 56 = .ok (.aload_n 0, 1) := by decide +kernel
theorem dX6_recallTurn_57 : decode cX6_recallTurn 57 = .ok (.getfield 157, 3) := by decide +kernel
theorem dX6_recallTurn_60 : decode cX6_recallTurn 60 = .ok (.iconst (-1), 1) := by decide +kernel
theorem dX6_recallTurn_61 : decode cX6_recallTurn 61 = .ok (.if_icmp .eq 5, 3) := by decide +kernel
theorem dX6_recallTurn_64 : decode cX6_recallTurn 64 = .ok (.iconst 4, 1) := by decide +kernel
theorem dX6_recallTurn_65 : decode cX6_recallTurn 65 = .ok (.ireturn, 1) := by decide +kernel
theorem dX6_recallTurn_66 : decode cX6_recallTurn 66 = .ok (.aload_n 0, 1) := by decide +kernel
theorem dX6_recallTurn_67 : decode cX6_recallTurn 67 = .ok (.getfield 74, 3) := by decide +kernel
theorem dX6_recallTurn_70 : decode cX6_recallTurn 70 = .ok (.iconst 1, 1) := by decide +kernel
theorem dX6_recallTurn_71 : decode cX6_recallTurn 71 = .ok (.isub, 1) := by decide +kernel
theorem dX6_recallTurn_72 : decode cX6_recallTurn 72 = .ok (.istore_n 2, 1) := by decide +kernel
theorem dX6_recallTurn_73 : decode cX6_recallTurn 73 = .ok (.iload_n 2, 1) := by decide +kernel
theorem dX6_recallTurn_74 : decode cX6_recallTurn 74 = .ok (.ifCond .lt 50, 3) := by decide +kernel
theorem dX6_recallTurn_77 : decode cX6_recallTurn 77 = .ok (.aload_n 0, 1) := by decide +kernel
theorem dX6_recallTurn_78 : decode cX6_recallTurn 78 = .ok (.iload_n 2, 1) := by decide +kernel
theorem dX6_recallTurn_79 : decode cX6_recallTurn 79 = .ok (.iconst 4, 1) := by decide +kernel
theorem dX6_recallTurn_80 : decode cX6_recallTurn 80 = .ok (.invokevirtual 115, 3) := by decide +kernel
theorem dX6_recallTurn_83 : decode cX6_recallTurn 83 = .ok (.istore_n 3, 1) := by decide +kernel
theorem dX6_recallTurn_84 : decode cX6_recallTurn 84 = .ok (.aload_n 0, 1) := by decide +kernel
theorem dX6_recallTurn_85 : decode cX6_recallTurn 85 = .ok (.iload_n 2, 1) := by decide +kernel
theorem dX6_recallTurn_86 : decode cX6_recallTurn 86 = .ok (.iconst 0, 1) := by decide +kernel
theorem dX6_recallTurn_87 : decode cX6_recallTurn 87 = .ok (.invokevirtual 115, 3) := by decide +kernel
theorem dX6_recallTurn_90 : decode cX6_recallTurn 90 = .ok (.iload_n 1, 1) := by decide +kernel
theorem dX6_recallTurn_91 : decode cX6_recallTurn 91 = .ok (.if_icmp .ne 27, 3) := by decide +kernel
theorem dX6_recallTurn_94 : decode cX6_recallTurn 94 = .ok (.iload_n 3, 1) := by decide +kernel
theorem dX6_recallTurn_95 : decode cX6_recallTurn 95 = .ok (.ifCond .eq 18, 3) := by decide +kernel
theorem dX6_recallTurn_98 : decode cX6_recallTurn 98 = .ok (.iload_n 3, 1) := by decide +kernel
theorem dX6_recallTurn_99 : decode cX6_recallTurn 99 = .ok (.iconst 1, 1) := by decide +kernel
theorem dX6_recallTurn_100 : decode cX6_recallTurn 100 = .ok (.if_icmp .eq 13, 3) := by decide +kernel
theorem dX6_recallTurn_103 : decode cX6_recallTurn 103 = .ok (.iload_n 3, 1) := by decide +kernel
theorem dX6_recallTurn_104 : decode cX6_recallTurn 104 = .ok (.iconst 2, 1) := by decide +kernel
theorem dX6_recallTurn_105 : decode cX6_recallTurn 105 = .ok (.if_icmp .eq 8, 3) := by decide +kernel
theorem dX6_recallTurn_108 : decode cX6_recallTurn 108 = .ok (.iload_n 3, 1) := by decide +kernel
theorem dX6_recallTurn_109 : decode cX6_recallTurn 109 = .ok (.iconst 4, 1) := by decide +kernel
theorem dX6_recallTurn_110 : decode cX6_recallTurn 110 = .ok (.if_icmp .ne 8, 3) := by decide +kernel
theorem dX6_recallTurn_113 : decode cX6_recallTurn 113 = .ok (.aload_n 0, 1) := by decide +kernel
theorem dX6_recallTurn_114 : decode cX6_recallTurn 114 = .ok (.iload_n 2, 1) := by decide +kernel
theorem dX6_recallTurn_115 : decode cX6_recallTurn 115 = .ok (.putfield 157, 3) := by decide +kernel
theorem dX6_recallTurn_118 : decode cX6_recallTurn 118 = .ok (.iinc 2 (-1), 3) := by decide +kernel
theorem dX6_recallTurn_121 : decode cX6_recallTurn 121 = .ok (.goto (-48), 3) := by decide +kernel
theorem dX6_recallTurn_124 : decode cX6_recallTurn 124 = .ok (.aload_n 0, 1) := by decide +kernel
theorem dX6_recallTurn_125 : decode cX6_recallTurn 125 = .ok (.getfield 157, 3) := by decide +kernel
theorem dX6_recallTurn_128 : decode cX6_recallTurn 128 = .ok (.iconst (-1), 1) := by decide +kernel
theorem dX6_recallTurn_129 : decode cX6_recallTurn 129 = .ok (.if_icmp .ne 7, 3) := by decide +kernel
theorem dX6_recallTurn_132 : decode cX6_recallTurn 132 = .ok (.iconst 0, 1) := by decide +kernel
theorem dX6_recallTurn_133 : decode cX6_recallTurn 133 = .ok (.goto 4, 3) := by decide +kernel
theorem dX6_recallTurn_136 : decode cX6_recallTurn 136 = .ok (.iconst 5, 1) := by decide +kernel
theorem dX6_recallTurn_137 : decode cX6_recallTurn 137 = .ok (.ireturn, 1) := by decide +kernel
set_option maxRecDepth 20000 in
theorem ggX6_hasTurn_X6_nextTurn : GoodIn wsX6_hasTurn wsX6_nextTurn := goodIn_r _ [5, 6, 7, 8, 9, 10, 11, 12, 13, 4, 14, 15, 16, 17, 18, 19, 20, 21, 22, 23, 24, 25, 26, 27, 28, 29, 30, 31, 32, 33, 34, 35, 36, 37, 38, 39, 40, 41, 42, 43, 44, 45, 46, 47, 48, 49, 50, 51, 52, 53, 54, 55, 56, 57, 58, 59, 60, 61, 62, 63, 64] (by decide +kernel) (by decide +kernel)
set_option maxRecDepth 20000 in
theorem gX6_hasTurn_X6_nextTurn : GoodIn wsX6_hasTurn (wsV RX6 166 RX6 yX6_nextTurn wsX6_nextTurn) := goodIn_app (goodIn_of _ (by decide +kernel)) ggX6_hasTurn_X6_nextTurn
theorem dX6_hasTurn_0 : decode cX6_hasTurn 0 = .ok (.aload_n 0, 1) := by decide +kernel
theorem dX6_hasTurn_1 : decode cX6_hasTurn 1 = .ok (.iload_n 1, 1) := by decide +kernel
theorem dX6_hasTurn_2 : decode cX6_hasTurn 2 = .ok (.invokevirtual 166, 3) := by decide +kernel
theorem dX6_hasTurn_5 : decode cX6_hasTurn 5 = .ok (.ifCond .eq 7, 3) := by decide +kernel
theorem dX6_hasTurn_8 : decode cX6_hasTurn 8 = .ok (.iconst 1, 1) := by decide +kernel
theorem dX6_hasTurn_9 : decode cX6_hasTurn 9 = .ok (.goto 4, 3) := by decide +kernel
theorem dX6_hasTurn_12 : decode cX6_hasTurn 12 = .ok (.iconst 0, 1) := by decide +kernel
theorem dX6_hasTurn_13 : decode cX6_hasTurn 13 = .ok (.ireturn, 1) := by decide +kernel
set_option maxRecDepth 20000 in
theorem ggX6_isLate_X6_of : GoodIn wsX6_isLate wsX6_of := goodIn_r _ [6, 7, 8, 9, 10, 11, 12, 13, 14, 15, 16, 17, 18, 19, 20, 21, 22, 23, 24, 25, 26, 27, 28, 29, 30, 31, 32, 33, 34, 35, 36, 37, 38] (by decide +kernel) (by decide +kernel)
set_option maxRecDepth 20000 in
theorem gX6_isLate_X6_of : GoodIn wsX6_isLate (wsV RX6 115 RX6 yX6_of wsX6_of) := goodIn_app (goodIn_of _ (by decide +kernel)) ggX6_isLate_X6_of
theorem dX6_isLate_0 : decode cX6_isLate 0 = .ok (.aload_n 0, 1) := by decide +kernel
theorem dX6_isLate_1 : decode cX6_isLate 1 = .ok (.iload_n 1, 1) := by decide +kernel
theorem dX6_isLate_2 : decode cX6_isLate 2 = .ok (.iconst 5, 1) := by decide +kernel
theorem dX6_isLate_3 : decode cX6_isLate 3 = .ok (.invokevirtual 115, 3) := by decide +kernel
theorem dX6_isLate_6 : decode cX6_isLate 6 = .ok (.aload_n 0, 1) := by decide +kernel
theorem dX6_isLate_7 : decode cX6_isLate 7 = .ok (.getfield 32, 3) := by decide +kernel
theorem dX6_isLate_10 : decode cX6_isLate 10 = .ok (.iload_n 2, 1) := by decide +kernel
theorem dX6_isLate_11 : decode cX6_isLate 11 = .ok (.iaload, 1) := by decide +kernel
theorem dX6_isLate_12 : decode cX6_isLate 12 = .ok (.bipush 30, 2) := by decide +kernel
theorem dX6_isLate_14 : decode cX6_isLate 14 = .ok (.isub, 1) := by decide +kernel
theorem dX6_isLate_15 : decode cX6_isLate 15 = .ok (.if_icmp .le 7, 3) := by decide +kernel
theorem dX6_isLate_18 : decode cX6_isLate 18 = .ok (.iconst 1, 1) := by decide +kernel
theorem dX6_isLate_19 : decode cX6_isLate 19 = .ok (.goto 4, 3) := by decide +kernel
theorem dX6_isLate_22 : decode cX6_isLate 22 = .ok (.iconst 0, 1) := by decide +kernel
theorem dX6_isLate_23 : decode cX6_isLate 23 = .ok (.ireturn, 1) := by decide +kernel
set_option maxRecDepth 20000 in
theorem ggX6_isAhead_X6_isLate : GoodIn wsX6_isAhead wsX6_isLate := goodIn_r _ [5, 6, 7, 8, 9, 4, 10, 11, 12, 13, 14, 15, 16, 17, 18, 19, 20, 21, 22, 23, 24, 25, 26, 27, 28, 29, 30, 31, 32, 33, 34, 35, 36, 37, 38, 39, 40, 41, 42] (by decide +kernel) (by decide +kernel)
set_option maxRecDepth 20000 in
theorem gX6_isAhead_X6_isLate : GoodIn wsX6_isAhead (wsV RX6 169 RX6 yX6_isLate wsX6_isLate) := goodIn_app (goodIn_of _ (by decide +kernel)) ggX6_isAhead_X6_isLate
set_option maxRecDepth 20000 in
theorem ggX6_isAhead_X6_of : GoodIn wsX6_isAhead wsX6_of := goodIn_r _ [10, 11, 12, 13, 14, 15, 16, 17, 18, 19, 20, 21, 22, 23, 24, 25, 26, 27, 28, 29, 30, 31, 32, 33, 34, 35, 36, 37, 38, 39, 40, 41, 42] (by decide +kernel) (by decide +kernel)
set_option maxRecDepth 20000 in
theorem gX6_isAhead_X6_of : GoodIn wsX6_isAhead (wsV RX6 115 RX6 yX6_of wsX6_of) := goodIn_app (goodIn_of _ (by decide +kernel)) ggX6_isAhead_X6_of
theorem dX6_isAhead_0 : decode cX6_isAhead 0 = .ok (.aload_n 0, 1) := by decide +kernel
theorem dX6_isAhead_1 : decode cX6_isAhead 1 = .ok (.iload_n 1, 1) := by decide +kernel
theorem dX6_isAhead_2 : decode cX6_isAhead 2 = .ok (.iload_n 3, 1) := by decide +kernel
theorem dX6_isAhead_3 : decode cX6_isAhead 3 = .ok (.invokevirtual 169, 3) := by decide +kernel
theorem dX6_isAhead_6 : decode cX6_isAhead 6 = .ok (.aload_n 0, 1) := by decide +kernel
theorem dX6_isAhead_7 : decode cX6_isAhead 7 = .ok (.iload_n 2, 1) := by decide +kernel
theorem dX6_isAhead_8 : decode cX6_isAhead 8 = .ok (.iload_n 3, 1) := by decide +kernel
theorem dX6_isAhead_9 : decode cX6_isAhead 9 = .ok (.invokevirtual 169, 3) := by decide +kernel
theorem dX6_isAhead_12 : decode cX6_isAhead 12 = .ok (.if_icmp .eq 10, 3) := by decide +kernel
theorem dX6_isAhead_15 : decode cX6_isAhead 15 = .ok (.aload_n 0, 1) := by decide +kernel
theorem dX6_isAhead_16 : decode cX6_isAhead 16 = .ok (.iload_n 2, 1) := by decide +kernel
theorem dX6_isAhead_17 : decode cX6_isAhead 17 = .ok (.iload_n 3, 1) := by decide +kernel
theorem dX6_isAhead_18 : decode cX6_isAhead 18 = .ok (.invokevirtual 169, 3) := by decide +kernel
theorem dX6_isAhead_21 : decode cX6_isAhead 21 = .ok (.ireturn, 1) := by decide +kernel
theorem dX6_isAhead_22 : decode cX6_isAhead 22 = .ok (.aload_n 0, 1) := by decide +kernel
theorem dX6_isAhead_23 : decode cX6_isAhead 23 = .ok (.iload_n 1, 1) := by decide +kernel
theorem dX6_isAhead_24 : decode cX6_isAhead 24 = .ok (.iconst 2, 1) := by decide +kernel
theorem dX6_isAhead_25 : decode cX6_isAhead 25 = .ok (.invokevirtual 115, 3) := by decide +kernel
theorem dX6_isAhead_28 : decode cX6_isAhead 28 = .ok (.aload_n 0, 1) := by decide +kernel
theorem dX6_isAhead_29 : decode cX6_isAhead 29 = .ok (.iload_n 2, 1) := by decide +kernel
theorem dX6_isAhead_30 : decode cX6_isAhead 30 = .ok (.iconst 2, 1) := by decide +kernel
theorem dX6_isAhead_31 : decode cX6_isAhead 31 = .ok (.invokevirtual 115, 3) := by decide +kernel
theorem dX6_isAhead_34 : decode cX6_isAhead 34 = .ok (.if_icmp .le 7, 3) := by decide +kernel
theorem dX6_isAhead_37 : decode cX6_isAhead 37 = .ok (.iconst 1, 1) := by decide +kernel
theorem dX6_isAhead_38 : decode cX6_isAhead 38 = .ok (.goto 4, 3) := by decide +kernel
theorem dX6_isAhead_41 : decode cX6_isAhead 41 = .ok (.iconst 0, 1) := by decide +kernel
theorem dX6_isAhead_42 : decode cX6_isAhead 42 = .ok (.ireturn, 1) := by decide +kernel
theorem dX6_write_0 : decode cX6_write 0 = .ok (.aload_n 0, 1) := by decide +kernel
theorem dX6_write_1 : decode cX6_write 1 = .ok (.getfield 172, 3) := by decide +kernel
theorem dX6_write_4 : decode cX6_write 4 = .ok (.sipush 3000, 3) := by decide +kernel
theorem dX6_write_7 : decode cX6_write 7 = .ok (.if_icmp .ge 33, 3) := by decide +kernel
theorem dX6_write_10 : decode cX6_write 10 = .ok (.aload_n 0, 1) := by decide +kernel
theorem dX6_write_11 : decode cX6_write 11 = .ok (.getfield 62, 3) := by decide +kernel
theorem dX6_write_14 : decode cX6_write 14 = .ok (.aload_n 0, 1) := by decide +kernel
theorem dX6_write_15 : decode cX6_write 15 = .ok (.getfield 172, 3) := by decide +kernel
theorem dX6_write_18 : decode cX6_write 18 = .ok (.iload_n 1, 1) := by decide +kernel
theorem dX6_write_19 : decode cX6_write 19 = .ok (.iastore, 1) := by decide +kernel
theorem dX6_write_20 : decode cX6_write 20 = .ok (.aload_n 0, 1) := by decide +kernel
theorem dX6_write_21 : decode cX6_write 21 = .ok (.getfield 65, 3) := by decide +kernel
theorem dX6_write_24 : decode cX6_write 24 = .ok (.aload_n 0, 1) := by decide +kernel
theorem dX6_write_25 : decode cX6_write 25 = .ok (.getfield 172, 3) := by decide +kernel
theorem dX6_write_28 : decode cX6_write 28 = .ok (.iload_n 2, 1) := by decide +kernel
theorem dX6_write_29 : decode cX6_write 29 = .ok (.iastore, 1) := by decide +kernel
theorem dX6_write_30 : decode cX6_write 30 = .ok (.aload_n 0, 1) := by decide +kernel
theorem dX6_write_31 : decode cX6_write 31 = .ok (.getfield 68, 3) := by decide +kernel
theorem dX6_write_34 : decode cX6_write 34 = .ok (.aload_n 0, 1) := by decide +kernel
theorem dX6_write_35 : decode cX6_write 35 = .ok (.getfield 172, 3) := by decide +kernel
theorem dX6_write_38 : decode cX6_write 38 = .ok (.iload_n 3, 1) := by decide +kernel
theorem dX6_write_39 : decode cX6_write 39 = .ok (.iastore, 1) := by decide +kernel
theorem dX6_write_40 : decode cX6_write 40 = .ok (.aload_n 0, 1) := by decide +kernel
theorem dX6_write_41 : decode cX6_write 41 = .ok (.dup, 1) := by decide +kernel
theorem dX6_write_42 : decode cX6_write 42 = .ok (.getfield 172, 3) := by decide +kernel
theorem dX6_write_45 : decode cX6_write 45 = .ok (.iconst 1, 1) := by decide +kernel
theorem dX6_write_46 : decode cX6_write 46 = .ok (.iadd, 1) := by decide +kernel
theorem dX6_write_47 : decode cX6_write 47 = .ok (.putfield 172, 3) := by decide +kernel
theorem dX6_write_50 : decode cX6_write 50 = .ok (.aload_n 0, 1) := by decide +kernel
theorem dX6_write_51 : decode cX6_write 51 = .ok (.getfield 41, 3) := by decide +kernel
theorem dX6_write_54 : decode cX6_write 54 = .ok (.iload_n 3, 1) := by decide +kernel
theorem dX6_write_55 : decode cX6_write 55 = .ok (.dup2, 1) := by decide +kernel
theorem dX6_write_56 : decode cX6_write 56 = .ok (.iaload, 1) := by decide +kernel
theorem dX6_write_57 : decode cX6_write 57 = .ok (.iconst 1, 1) := by decide +kernel
theorem dX6_write_58 : decode cX6_write 58 = .ok (.iadd, 1) := by decide +kernel
theorem dX6_write_59 : decode cX6_write 59 = .ok (.iastore, 1) := by decide +kernel
theorem dX6_write_60 : decode cX6_write 60 = .ok (.return_, 1) := by decide +kernel
set_option maxRecDepth 20000 in
theorem ggX6_turn_X6_nextTurn : GoodIn wsX6_turn wsX6_nextTurn := goodIn_r _ [9, 1, 10, 11, 12, 2, 13, 14, 15, 8, 16, 17, 18, 19, 20, 21, 22, 23, 24, 25, 26, 27, 28, 29, 30, 31, 32, 33, 34, 35, 108, 109, 110, 111, 112, 113, 114, 115, 116, 117, 118, 119, 120, 121, 122, 123, 124, 125, 126, 127, 128, 129, 130, 131, 132, 133, 134, 135, 136, 137, 138] (by decide +kernel) (by decide +kernel)
set_option maxRecDepth 20000 in
theorem gX6_turn_X6_nextTurn : GoodIn wsX6_turn (wsV RX6 166 RX6 yX6_nextTurn wsX6_nextTurn) := goodIn_app (goodIn_of _ (by decide +kernel)) ggX6_turn_X6_nextTurn
set_option maxRecDepth 20000 in
theorem ggX6_turn_X6_put : GoodIn wsX6_turn wsX6_put := goodIn_r _ [39, 26, 108, 109, 110, 111, 112, 113, 114, 115, 116, 117, 118, 119, 120, 121, 122, 123, 124, 125, 126, 127, 128, 129, 130, 131, 132, 133, 134, 135, 136, 137, 138] (by decide +kernel) (by decide +kernel)
set_option maxRecDepth 20000 in
theorem gX6_turn_X6_put : GoodIn wsX6_turn (wsV RX6 108 RX6 yX6_put wsX6_put) := goodIn_app (goodIn_of _ (by decide +kernel)) ggX6_turn_X6_put
set_option maxRecDepth 20000 in
theorem ggX6_turn_X6_write : GoodIn wsX6_turn wsX6_write := goodIn_r _ [43, 44, 45, 46, 47, 48, 108, 109, 110, 111, 112, 113, 114, 115, 116, 117, 118, 119, 120, 121, 122, 123, 124, 125, 126, 127, 128, 129, 130, 131, 132, 133, 134, 135, 136, 137, 138] (by decide +kernel) (by decide +kernel)
set_option maxRecDepth 20000 in
theorem gX6_turn_X6_write : GoodIn wsX6_turn (wsV RX6 175 RX6 yX6_write wsX6_write) := goodIn_app (goodIn_of _ (by decide +kernel)) ggX6_turn_X6_write
set_option maxRecDepth 20000 in
theorem ggX6_turn_X6_goesOn : GoodIn wsX6_turn wsX6_goesOn := goodIn_r _ [52, 3, 2, 40, 41, 42, 8, 43, 44, 45, 46, 47, 48, 53, 54, 55, 56, 57, 58, 59, 60, 12, 22, 23, 24, 25, 26, 18, 19, 20, 21, 36, 37, 38, 39, 108, 109, 110, 111, 112, 113, 114, 115, 116, 117, 118, 119, 120, 121, 122, 123, 124, 125, 126, 127, 128, 129, 130, 131, 132, 133, 134, 135, 136, 137, 138] (by decide +kernel) (by decide +kernel)
set_option maxRecDepth 20000 in
theorem gX6_turn_X6_goesOn : GoodIn wsX6_turn (wsV RX6 178 RX6 yX6_goesOn wsX6_goesOn) := goodIn_app (goodIn_of _ (by decide +kernel)) ggX6_turn_X6_goesOn
set_option maxRecDepth 20000 in
theorem ggX6_turn_X6_boards : GoodIn wsX6_turn wsX6_boards := goodIn_r _ [64, 59, 65, 66, 67, 68, 17, 69, 22, 23, 24, 8, 25, 26, 70, 71, 72, 73, 74, 12, 18, 19, 20, 21, 75, 76, 77, 78, 79, 80, 81, 82, 83, 84, 85, 36, 37, 38, 39, 108, 109, 110, 111, 112, 113, 114, 115, 116, 117, 118, 119, 120, 121, 122, 123, 124, 125, 126, 127, 128, 129, 130, 131, 132, 133, 134, 135, 136, 137, 138] (by decide +kernel) (by decide +kernel)
set_option maxRecDepth 20000 in
theorem gX6_turn_X6_boards : GoodIn wsX6_turn (wsV RX6 182 RX6 yX6_boards wsX6_boards) := goodIn_app (goodIn_of _ (by decide +kernel)) ggX6_turn_X6_boards
set_option maxRecDepth 20000 in
theorem ggX6_turn_X6_of : GoodIn wsX6_turn wsX6_of := goodIn_r _ [25, 26, 108, 109, 110, 111, 112, 113, 114, 115, 116, 117, 118, 119, 120, 121, 122, 123, 124, 125, 126, 127, 128, 129, 130, 131, 132, 133, 134, 135, 136, 137, 138] (by decide +kernel) (by decide +kernel)
set_option maxRecDepth 20000 in
theorem gX6_turn_X6_of : GoodIn wsX6_turn (wsV RX6 115 RX6 yX6_of wsX6_of) := goodIn_app (goodIn_of _ (by decide +kernel)) ggX6_turn_X6_of
set_option maxRecDepth 20000 in
theorem ggX6_turn_X6_comesOff : GoodIn wsX6_turn wsX6_comesOff := goodIn_r _ [89, 36, 37, 38, 8, 39, 26, 108, 109, 110, 111, 112, 113, 114, 115, 116, 117, 118, 119, 120, 121, 122, 123, 124, 125, 126, 127, 128, 129, 130, 131, 132, 133, 134, 135, 136, 137, 138] (by decide +kernel) (by decide +kernel)
set_option maxRecDepth 20000 in
theorem gX6_turn_X6_comesOff : GoodIn wsX6_turn (wsV RX6 185 RX6 yX6_comesOff wsX6_comesOff) := goodIn_app (goodIn_of _ (by decide +kernel)) ggX6_turn_X6_comesOff
set_option maxRecDepth 20000 in
theorem ggX6_turn_X6_goesAway : GoodIn wsX6_turn wsX6_goesAway := goodIn_r _ [93, 94, 95, 35, 4, 79, 59, 96, 97, 98, 8, 99, 10, 22, 23, 24, 25, 26, 36, 37, 38, 39, 40, 41, 42, 43, 44, 45, 46, 47, 48, 108, 109, 110, 111, 112, 113, 114, 115, 116, 117, 118, 119, 120, 121, 122, 123, 124, 125, 126, 127, 128, 129, 130, 131, 132, 133, 134, 135, 136, 137, 138] (by decide +kernel) (by decide +kernel)
set_option maxRecDepth 20000 in
theorem gX6_turn_X6_goesAway : GoodIn wsX6_turn (wsV RX6 188 RX6 yX6_goesAway wsX6_goesAway) := goodIn_app (goodIn_of _ (by decide +kernel)) ggX6_turn_X6_goesAway
set_option maxRecDepth 20000 in
theorem ggX6_turn_X6_lookAtRecall : GoodIn wsX6_turn wsX6_lookAtRecall := goodIn_r _ [103, 4, 11, 2, 10, 104, 105, 106, 8, 107, 5, 6, 7, 9, 1, 12, 13, 14, 15, 16, 17, 18, 19, 20, 21, 22, 23, 24, 25, 26, 27, 28, 29, 30, 31, 32, 33, 34, 35, 108, 109, 110, 111, 112, 113, 114, 115, 116, 117, 118, 119, 120, 121, 122, 123, 124, 125, 126, 127, 128, 129, 130, 131, 132, 133, 134, 135, 136, 137, 138] (by decide +kernel) (by decide +kernel)
set_option maxRecDepth 20000 in
theorem gX6_turn_X6_lookAtRecall : GoodIn wsX6_turn (wsV RX6 123 RX6 yX6_lookAtRecall wsX6_lookAtRecall) := goodIn_app (goodIn_of _ (by decide +kernel)) ggX6_turn_X6_lookAtRecall
theorem dX6_turn_0 : decode cX6_turn 0 = .ok (.aload_n 0, 1) := by decide +kernel
theorem dX6_turn_1 : decode cX6_turn 1 = .ok (.iload_n 1, 1) := by decide +kernel
theorem dX6_turn_2 : decode cX6_turn 2 = .ok (.invokevirtual 166, 3) := by decide +kernel
theorem dX6_turn_5 : decode cX6_turn 5 = .ok (.istore_n 2, 1) := by decide +kernel
theorem dX6_turn_6 : decode cX6_turn 6 = .ok (.aload_n 0, 1) := by decide +kernel
theorem dX6_turn_7 : decode cX6_turn 7 = .ok (.getfield 157, 3) := by decide +kernel
theorem dX6_turn_10 : decode cX6_turn 10 = .ok (.istore_n 3, 1) := by decide +kernel
theorem dX6_turn_11 : decode cX6_turn 11 = .ok (.iload_n 2, 1) := by decide +kernel
theorem dX6_turn_12 : decode cX6_turn 12 = .ok (.tableswitch 143 0 4 #[36, 38, 55, 64, 127], 36) := by decide +kernel
theorem dX6_turn_48 : decode cX6_turn 48 = .ok (.iconst 0, 1) := by decide +kernel
theorem dX6_turn_49 : decode cX6_turn 49 = .ok (.ireturn, 1) := by decide +kernel
theorem dX6_turn_50 : decode cX6_turn 50 = .ok (.aload_n 0, 1) := by decide +kernel
theorem dX6_turn_51 : decode cX6_turn 51 = .ok (.iload_n 3, 1) := by decide +kernel
theorem dX6_turn_52 : decode cX6_turn 52 = .ok (.iconst 4, 1) := by decide +kernel
theorem dX6_turn_53 : decode cX6_turn 53 = .ok (.iconst 2, 1) := by decide +kernel
theorem dX6_turn_54 : decode cX6_turn 54 = .ok (.invokevirtual 108, 3) := by decide +kernel
theorem dX6_turn_57 : decode cX6_turn 57 = .ok (.aload_n 0, 1) := by decide +kernel
theorem dX6_turn_58 : decode cX6_turn 58 = .ok (.iconst 0, 1) := by decide +kernel
theorem dX6_turn_59 : decode cX6_turn 59 = .ok (.iload_n 3, 1) := by decide +kernel
theorem dX6_turn_60 : decode cX6_turn 60 = .ok (.iload_n 1, 1) := by decide +kernel
theorem dX6_turn_61 : decode cX6_turn 61 = .ok (.invokevirtual 175, 3) := by decide +kernel
theorem dX6_turn_64 : decode cX6_turn 64 = .ok (.goto 97, 3) := by decide +kernel
theorem dX6_turn_67 : decode cX6_turn 67 = .ok (.aload_n 0, 1) := by decide +kernel
theorem dX6_turn_68 : decode cX6_turn 68 = .ok (.iload_n 3, 1) := by decide +kernel
theorem dX6_turn_69 : decode cX6_turn 69 = .ok (.iload_n 1, 1) := by decide +kernel
theorem dX6_turn_70 : decode cX6_turn 70 = .ok (.invokevirtual 178, 3) := by decide +kernel
theorem dX6_turn_73 : decode cX6_turn 73 = .ok (.goto 88, 3) := by decide +kernel
theorem dX6_turn_76 : decode cX6_turn 76 = .ok (.aload_n 0, 1) := by decide +kernel
theorem dX6_turn_77 : decode cX6_turn 77 = .ok (.iload_n 3, 1) := by decide +kernel
theorem dX6_turn_78 : decode cX6_turn 78 = .ok (.iload_n 1, 1) := by decide +kernel
theorem dX6_turn_79 : decode cX6_turn 79 = .ok (.invokevirtual 182, 3) := by decide +kernel
theorem dX6_turn_82 : decode cX6_turn 82 = .ok (.ifCond .eq 40, 3) := by decide +kernel
theorem dX6_turn_85 : decode cX6_turn 85 = .ok (.aload_n 0, 1) := by decide +kernel
theorem dX6_turn_86 : decode cX6_turn 86 = .ok (.getfield 47, 3) := by decide +kernel
theorem dX6_turn_89 : decode cX6_turn 89 = .ok (.iload_n 1, 1) := by decide +kernel
theorem dX6_turn_90 : decode cX6_turn 90 = .ok (.iload_n 3, 1) := by decide +kernel
theorem dX6_turn_91 : decode cX6_turn 91 = .ok (.iastore, 1) := by decide +kernel
theorem dX6_turn_92 : decode cX6_turn 92 = .ok (.aload_n 0, 1) := by decide +kernel
theorem dX6_turn_93 : decode cX6_turn 93 = .ok (.getfield 50, 3) := by decide +kernel
theorem dX6_turn_96 : decode cX6_turn 96 = .ok (.iload_n 1, 1) := by decide +kernel
theorem dX6_turn_97 : decode cX6_turn 97 = .ok (.aload_n 0, 1) := by decide +kernel
theorem dX6_turn_98 : decode cX6_turn 98 = .ok (.iload_n 3, 1) := by decide +kernel
theorem dX6_turn_99 : decode cX6_turn 99 = .ok (.iconst 3, 1) := by decide +kernel
theorem dX6_turn_100 : decode cX6_turn 100 = .ok (.invokevirtual 115, 3) := by decide +kernel
theorem dX6_turn_103 : decode cX6_turn 103 = .ok (.ifCond .le 7, 3) := by decide +kernel
theorem dX6_turn_106 : decode cX6_turn 106 = .ok (.iconst 0, 1) := by decide +kernel
theorem dX6_turn_107 : decode cX6_turn 107 = .ok (.goto 4, 3) := by decide +kernel
theorem dX6_turn_110 : decode cX6_turn 110 = .ok (.iconst 1, 1) := by decide +kernel
theorem dX6_turn_111 : decode cX6_turn 111 = .ok (.iastore, 1) := by decide +kernel
theorem dX6_turn_112 : decode cX6_turn 112 = .ok (.aload_n 0, 1) := by decide +kernel
theorem dX6_turn_113 : decode cX6_turn 113 = .ok (.iconst 1, 1) := by decide +kernel
theorem dX6_turn_114 : decode cX6_turn 114 = .ok (.iload_n 3, 1) := by decide +kernel
theorem dX6_turn_115 : decode cX6_turn 115 = .ok (.iload_n 1, 1) := by decide +kernel
theorem dX6_turn_116 : decode cX6_turn 116 = .ok (.invokevirtual 175, 3) := by decide +kernel
theorem dX6_turn_119 : decode cX6_turn 119 = .ok (.goto 42, 3) := by decide +kernel
theorem dX6_turn_122 : decode cX6_turn 122 = .ok (.aload_n 0, 1) := by decide +kernel
theorem dX6_turn_123 : decode cX6_turn 123 = .ok (.iload_n 3, 1) := by decide +kernel
theorem dX6_turn_124 : decode cX6_turn 124 = .ok (.iconst 4, 1) := by decide +kernel
theorem dX6_turn_125 : decode cX6_turn 125 = .ok (.iconst 4, 1) := by decide +kernel
theorem dX6_turn_126 : decode cX6_turn 126 = .ok (.invokevirtual 108, 3) := by decide +kernel
theorem dX6_turn_129 : decode cX6_turn 129 = .ok (.aload_n 0, 1) := by decide +kernel
theorem dX6_turn_130 : decode cX6_turn 130 = .ok (.iconst 2, 1) := by decide +kernel
theorem dX6_turn_131 : decode cX6_turn 131 = .ok (.iload_n 3, 1) := by decide +kernel
theorem dX6_turn_132 : decode cX6_turn 132 = .ok (.iload_n 1, 1) := by decide +kernel
theorem dX6_turn_133 : decode cX6_turn 133 = .ok (.invokevirtual 175, 3) := by decide +kernel
theorem dX6_turn_136 : decode cX6_turn 136 = .ok (.goto 25, 3) := by decide +kernel
theorem dX6_turn_139 : decode cX6_turn 139 = .ok (.aload_n 0, 1) := by decide +kernel
theorem dX6_turn_140 : decode cX6_turn 140 = .ok (.iload_n 3, 1) := by decide +kernel
theorem dX6_turn_141 : decode cX6_turn 141 = .ok (.invokevirtual 185, 3) := by decide +kernel
theorem dX6_turn_144 : decode cX6_turn 144 = .ok (.aload_n 0, 1) := by decide +kernel
theorem dX6_turn_145 : decode cX6_turn 145 = .ok (.bipush 6, 2) := by decide +kernel
theorem dX6_turn_147 : decode cX6_turn 147 = .ok (.iload_n 3, 1) := by decide +kernel
theorem dX6_turn_148 : decode cX6_turn 148 = .ok (.iload_n 1, 1) := by decide +kernel
theorem dX6_turn_149 : decode cX6_turn 149 = .ok (.invokevirtual 175, 3) := by decide +kernel
theorem dX6_turn_152 : decode cX6_turn 152 = .ok (.goto 9, 3) := by decide +kernel
theorem dX6_turn_155 : decode cX6_turn 155 = .ok (.aload_n 0, 1) := by decide +kernel
theorem dX6_turn_156 : decode cX6_turn 156 = .ok (.iload_n 3, 1) := by decide +kernel
theorem dX6_turn_157 : decode cX6_turn 157 = .ok (.iload_n 1, 1) := by decide +kernel
theorem dX6_turn_158 : decode cX6_turn 158 = .ok (.invokevirtual 188, 3) := by decide +kernel
theorem dX6_turn_161 : decode cX6_turn 161 = .ok (.aload_n 0, 1) := by decide +kernel
theorem dX6_turn_162 : decode cX6_turn 162 = .ok (.getfield 44, 3) := by decide +kernel
theorem dX6_turn_165 : decode cX6_turn 165 = .ok (.iload_n 1, 1) := by decide +kernel
theorem dX6_turn_166 : decode cX6_turn 166 = .ok (.iaload, 1) := by decide +kernel
theorem dX6_turn_167 : decode cX6_turn 167 = .ok (.ifCond .le 13, 3) := by decide +kernel
theorem dX6_turn_170 : decode cX6_turn 170 = .ok (.aload_n 0, 1) := by decide +kernel
theorem dX6_turn_171 : decode cX6_turn 171 = .ok (.getfield 44, 3) := by decide +kernel
theorem dX6_turn_174 : decode cX6_turn 174 = .ok (.iload_n 1, 1) := by decide +kernel
theorem dX6_turn_175 : decode cX6_turn 175 = .ok (.dup2, 1) := by decide +kernel
theorem dX6_turn_176 : decode cX6_turn 176 = .ok (.iaload, 1) := by decide +kernel
theorem dX6_turn_177 : decode cX6_turn 177 = .ok (.iconst 1, 1) := by decide +kernel
theorem dX6_turn_178 : decode cX6_turn 178 = .ok (.isub, 1) := by decide +kernel
theorem dX6_turn_179 : decode cX6_turn 179 = .ok (.iastore, 1) := by decide +kernel
theorem dX6_turn_180 : decode cX6_turn 180 = .ok (.aload_n 0, 1) := by decide +kernel
theorem dX6_turn_181 : decode cX6_turn 181 = .ok (.iload_n 1, 1) := by decide +kernel
theorem dX6_turn_182 : decode cX6_turn 182 = .ok (.invokevirtual 123, 3) := by decide +kernel
theorem dX6_turn_185 : decode cX6_turn 185 = .ok (.iconst 1, 1) := by decide +kernel
theorem dX6_turn_186 : decode cX6_turn 186 = .ok (.ireturn, 1) := by decide +kernel
set_option maxRecDepth 20000 in
theorem ggX6_goesOn_X6_write : GoodIn wsX6_goesOn wsX6_write := goodIn_r _ [7, 8, 9, 10, 11, 12, 35, 36, 37, 38, 39, 40, 41, 42, 43, 44, 45, 46, 47, 48, 49, 50, 51, 52, 53, 54, 55, 56, 57, 58, 59, 60, 61, 62, 63, 64, 65] (by decide +kernel) (by decide +kernel)
set_option maxRecDepth 20000 in
theorem gX6_goesOn_X6_write : GoodIn wsX6_goesOn (wsV RX6 175 RX6 yX6_write wsX6_write) := goodIn_app (goodIn_of _ (by decide +kernel)) ggX6_goesOn_X6_write
set_option maxRecDepth 20000 in
theorem ggX6_goesOn_X6_cabinFor : GoodIn wsX6_goesOn wsX6_cabinFor := goodIn_r _ [16, 17, 18, 19, 20, 21, 22, 23, 24, 6, 25, 26, 27, 28, 29, 30, 35, 36, 37, 38, 39, 40, 41, 42, 43, 44, 45, 46, 47, 48, 49, 50, 51, 52, 53, 54, 55, 56, 57, 58, 59, 60, 61, 62, 63, 64, 65] (by decide +kernel) (by decide +kernel)
set_option maxRecDepth 20000 in
theorem gX6_goesOn_X6_cabinFor : GoodIn wsX6_goesOn (wsV RX6 191 RX6 yX6_cabinFor wsX6_cabinFor) := goodIn_app (goodIn_of _ (by decide +kernel)) ggX6_goesOn_X6_cabinFor
set_option maxRecDepth 20000 in
theorem ggX6_goesOn_X6_put : GoodIn wsX6_goesOn wsX6_put := goodIn_r _ [34, 26, 35, 36, 37, 38, 39, 40, 41, 42, 43, 44, 45, 46, 47, 48, 49, 50, 51, 52, 53, 54, 55, 56, 57, 58, 59, 60, 61, 62, 63, 64, 65] (by decide +kernel) (by decide +kernel)
set_option maxRecDepth 20000 in
theorem gX6_goesOn_X6_put : GoodIn wsX6_goesOn (wsV RX6 108 RX6 yX6_put wsX6_put) := goodIn_app (goodIn_of _ (by decide +kernel)) ggX6_goesOn_X6_put
theorem dX6_goesOn_0 : decode cX6_goesOn 0 = .ok (.aload_n 0, 1) := by decide +kernel
theorem dX6_goesOn_1 : decode cX6_goesOn 1 = .ok (.getfield 50, 3) := by decide +kernel
theorem dX6_goesOn_4 : decode cX6_goesOn 4 = .ok (.iload_n 2, 1) := by decide +kernel
theorem dX6_goesOn_5 : decode cX6_goesOn 5 = .ok (.iaload, 1) := by decide +kernel
theorem dX6_goesOn_6 : decode cX6_goesOn 6 = .ok (.iconst 1, 1) := by decide +kernel
theorem dX6_goesOn_7 : decode cX6_goesOn 7 = .ok (.if_icmp .ne 18, 3) := by decide +kernel
theorem dX6_goesOn_10 : decode cX6_goesOn 10 = .ok (.aload_n 0, 1) := by decide +kernel
theorem dX6_goesOn_11 : decode cX6_goesOn 11 = .ok (.getfield 47, 3) := by decide +kernel
theorem dX6_goesOn_14 : decode cX6_goesOn 14 = .ok (.iload_n 2, 1) := by decide +kernel
theorem dX6_goesOn_15 : decode cX6_goesOn 15 = .ok (.iconst (-1), 1) := by decide +kernel
theorem dX6_goesOn_16 : decode cX6_goesOn 16 = .ok (.iastore, 1) := by decide +kernel
theorem dX6_goesOn_17 : decode cX6_goesOn 17 = .ok (.aload_n 0, 1) := by decide +kernel
theorem dX6_goesOn_18 : decode cX6_goesOn 18 = .ok (.iconst 5, 1) := by decide +kernel
theorem dX6_goesOn_19 : decode cX6_goesOn 19 = .ok (.iload_n 1, 1) := by decide +kernel
theorem dX6_goesOn_20 : decode cX6_goesOn 20 = .ok (.iload_n 2, 1) := by decide +kernel
theorem dX6_goesOn_21 : decode cX6_goesOn 21 = .ok (.invokevirtual 175, 3) := by decide +kernel
theorem dX6_goesOn_24 : decode cX6_goesOn 24 = .ok (.return_, 1) := by decide +kernel
theorem dX6_goesOn_25 : decode cX6_goesOn 25 = .ok (.aload_n 0, 1) := by decide +kernel
theorem dX6_goesOn_26 : decode cX6_goesOn 26 = .ok (.iload_n 1, 1) := by decide +kernel
theorem dX6_goesOn_27 : decode cX6_goesOn 27 = .ok (.iload_n 2, 1) := by decide +kernel
theorem dX6_goesOn_28 : decode cX6_goesOn 28 = .ok (.invokevirtual 191, 3) := by decide +kernel
theorem dX6_goesOn_31 : decode cX6_goesOn 31 = .ok (.istore_n 3, 1) := by decide +kernel
theorem dX6_goesOn_32 : decode cX6_goesOn 32 = .ok (.aload_n 0, 1) := by decide +kernel
theorem dX6_goesOn_33 : decode cX6_goesOn 33 = .ok (.iload_n 1, 1) := by decide +kernel
theorem dX6_goesOn_34 : decode cX6_goesOn 34 = .ok (.bipush 9, 2) := by decide +kernel
theorem dX6_goesOn_36 : decode cX6_goesOn 36 = .ok (.iload_n 3, 1) := by decide +kernel
theorem dX6_goesOn_37 : decode cX6_goesOn 37 = .ok (.invokevirtual 108, 3) := by decide +kernel
theorem dX6_goesOn_40 : decode cX6_goesOn 40 = .ok (.aload_n 0, 1) := by decide +kernel
theorem dX6_goesOn_41 : decode cX6_goesOn 41 = .ok (.getfield 50, 3) := by decide +kernel
theorem dX6_goesOn_44 : decode cX6_goesOn 44 = .ok (.iload_n 2, 1) := by decide +kernel
theorem dX6_goesOn_45 : decode cX6_goesOn 45 = .ok (.iconst 1, 1) := by decide +kernel
theorem dX6_goesOn_46 : decode cX6_goesOn 46 = .ok (.iastore, 1) := by decide +kernel
theorem dX6_goesOn_47 : decode cX6_goesOn 47 = .ok (.aload_n 0, 1) := by decide +kernel
theorem dX6_goesOn_48 : decode cX6_goesOn 48 = .ok (.iload_n 3, 1) := by decide +kernel
theorem dX6_goesOn_49 : decode cX6_goesOn 49 = .ok (.iconst (-1), 1) := by decide +kernel
theorem dX6_goesOn_50 : decode cX6_goesOn 50 = .ok (.if_icmp .ne 7, 3) := by decide +kernel
theorem dX6_goesOn_53 : decode cX6_goesOn 53 = .ok (.iconst 4, 1) := by decide +kernel
theorem dX6_goesOn_54 : decode cX6_goesOn 54 = .ok (.goto 4, 3) := by decide +kernel
theorem dX6_goesOn_57 : decode cX6_goesOn 57 = .ok (.iconst 3, 1) := by decide +kernel
theorem dX6_goesOn_58 : decode cX6_goesOn 58 = .ok (.iload_n 1, 1) := by decide +kernel
theorem dX6_goesOn_59 : decode cX6_goesOn 59 = .ok (.iload_n 2, 1) := by decide +kernel
theorem dX6_goesOn_60 : decode cX6_goesOn 60 = .ok (.invokevirtual 175, 3) := by decide +kernel
theorem dX6_goesOn_63 : decode cX6_goesOn 63 = .ok (.return_, 1) := by decide +kernel
set_option maxRecDepth 20000 in
theorem ggX6_goesAway_X6_isToGo : GoodIn wsX6_goesAway wsX6_isToGo := goodIn_r _ [11, 12, 31, 32, 33, 34, 35, 36, 37, 38, 39, 40, 41, 42, 43, 44, 45, 46, 47, 48, 49, 50, 51, 52, 53, 54, 55, 56, 57, 58, 59, 60, 61] (by decide +kernel) (by decide +kernel)
set_option maxRecDepth 20000 in
theorem gX6_goesAway_X6_isToGo : GoodIn wsX6_goesAway (wsV RX6 105 RX6 yX6_isToGo wsX6_isToGo) := goodIn_app (goodIn_of _ (by decide +kernel)) ggX6_goesAway_X6_isToGo
set_option maxRecDepth 20000 in
theorem ggX6_goesAway_X6_of : GoodIn wsX6_goesAway wsX6_of := goodIn_r _ [16, 17, 31, 32, 33, 34, 35, 36, 37, 38, 39, 40, 41, 42, 43, 44, 45, 46, 47, 48, 49, 50, 51, 52, 53, 54, 55, 56, 57, 58, 59, 60, 61] (by decide +kernel) (by decide +kernel)
set_option maxRecDepth 20000 in
theorem gX6_goesAway_X6_of : GoodIn wsX6_goesAway (wsV RX6 115 RX6 yX6_of wsX6_of) := goodIn_app (goodIn_of _ (by decide +kernel)) ggX6_goesAway_X6_of
set_option maxRecDepth 20000 in
theorem ggX6_goesAway_X6_put : GoodIn wsX6_goesAway wsX6_put := goodIn_r _ [21, 17, 31, 32, 33, 34, 35, 36, 37, 38, 39, 40, 41, 42, 43, 44, 45, 46, 47, 48, 49, 50, 51, 52, 53, 54, 55, 56, 57, 58, 59, 60, 61] (by decide +kernel) (by decide +kernel)
set_option maxRecDepth 20000 in
theorem gX6_goesAway_X6_put : GoodIn wsX6_goesAway (wsV RX6 108 RX6 yX6_put wsX6_put) := goodIn_app (goodIn_of _ (by decide +kernel)) ggX6_goesAway_X6_put
set_option maxRecDepth 20000 in
theorem ggX6_goesAway_X6_write : GoodIn wsX6_goesAway wsX6_write := goodIn_r _ [25, 26, 27, 28, 29, 30, 31, 32, 33, 34, 35, 36, 37, 38, 39, 40, 41, 42, 43, 44, 45, 46, 47, 48, 49, 50, 51, 52, 53, 54, 55, 56, 57, 58, 59, 60, 61] (by decide +kernel) (by decide +kernel)
set_option maxRecDepth 20000 in
theorem gX6_goesAway_X6_write : GoodIn wsX6_goesAway (wsV RX6 175 RX6 yX6_write wsX6_write) := goodIn_app (goodIn_of _ (by decide +kernel)) ggX6_goesAway_X6_write
theorem dX6_goesAway_0 : decode cX6_goesAway 0 = .ok (.iconst (-1), 1) := by decide +kernel
theorem dX6_goesAway_1 : decode cX6_goesAway 1 = .ok (.istore_n 3, 1) := by decide +kernel
theorem dX6_goesAway_2 : decode cX6_goesAway 2 = .ok (.iconst 0, 1) := by decide +kernel
theorem dX6_goesAway_3 : decode cX6_goesAway 3 = .ok (.istore 4, 2) := by decide +kernel
theorem dX6_goesAway_5 : decode cX6_goesAway 5 = .ok (.iload 4, 2) := by decide +kernel
theorem dX6_goesAway_7 : decode cX6_goesAway 7 = .ok (.aload_n 0, 1) := by decide +kernel
theorem dX6_goesAway_8 : decode cX6_goesAway 8 = .ok (.getfield 78, 3) := by decide +kernel
theorem dX6_goesAway_11 : decode cX6_goesAway 11 = .ok (.if_icmp .ge 109, 3) := by decide +kernel
theorem dX6_goesAway_14 : decode cX6_goesAway 14 = .ok (.aload_n 0, 1) := by decide +kernel
theorem dX6_goesAway_15 : decode cX6_goesAway 15 = .ok (.getfield 35, 3) := by decide +kernel
theorem dX6_goesAway_18 : decode cX6_goesAway 18 = .ok (.iload 4, 2) := by decide +kernel
theorem dX6_goesAway_20 : decode cX6_goesAway 20 = .ok (.iaload, 1) := by decide +kernel
theorem dX6_goesAway_21 : decode cX6_goesAway 21 = .ok (.aload_n 0, 1) := by decide +kernel
theorem dX6_goesAway_22 : decode cX6_goesAway 22 = .ok (.getfield 35, 3) := by decide +kernel
theorem dX6_goesAway_25 : decode cX6_goesAway 25 = .ok (.iload_n 2, 1) := by decide +kernel
theorem dX6_goesAway_26 : decode cX6_goesAway 26 = .ok (.iaload, 1) := by decide +kernel
theorem dX6_goesAway_27 : decode cX6_goesAway 27 = .ok (.if_icmp .ne 87, 3) := by decide +kernel
theorem dX6_goesAway_30 : decode cX6_goesAway 30 = .ok (.aload_n 0, 1) := by decide +kernel
theorem dX6_goesAway_31 : decode cX6_goesAway 31 = .ok (.iload 4, 2) := by decide +kernel
theorem dX6_goesAway_33 : decode cX6_goesAway 33 = .ok (.invokevirtual 105, 3) := by decide +kernel
theorem dX6_goesAway_36 : decode cX6_goesAway 36 = .ok (.ifCond .eq 78, 3) := by decide +kernel
theorem dX6_goesAway_39 : decode cX6_goesAway 39 = .ok (.aload_n 0, 1) := by decide +kernel
theorem dX6_goesAway_40 : decode cX6_goesAway 40 = .ok (.getfield 32, 3) := by decide +kernel
theorem dX6_goesAway_43 : decode cX6_goesAway 43 = .ok (.iload 4, 2) := by decide +kernel
theorem dX6_goesAway_45 : decode cX6_goesAway 45 = .ok (.iaload, 1) := by decide +kernel
theorem dX6_goesAway_46 : decode cX6_goesAway 46 = .ok (.aload_n 0, 1) := by decide +kernel
theorem dX6_goesAway_47 : decode cX6_goesAway 47 = .ok (.getfield 32, 3) := by decide +kernel
theorem dX6_goesAway_50 : decode cX6_goesAway 50 = .ok (.iload_n 2, 1) := by decide +kernel
theorem dX6_goesAway_51 : decode cX6_goesAway 51 = .ok (.iaload, 1) := by decide +kernel
theorem dX6_goesAway_52 : decode cX6_goesAway 52 = .ok (.if_icmp .le 62, 3) := by decide +kernel
theorem dX6_goesAway_55 : decode cX6_goesAway 55 = .ok (.aload_n 0, 1) := by decide +kernel
theorem dX6_goesAway_56 : decode cX6_goesAway 56 = .ok (.getfield 44, 3) := by decide +kernel
theorem dX6_goesAway_59 : decode cX6_goesAway 59 = .ok (.iload 4, 2) := by decide +kernel
theorem dX6_goesAway_61 : decode cX6_goesAway 61 = .ok (.iaload, 1) := by decide +kernel
theorem dX6_goesAway_62 : decode cX6_goesAway 62 = .ok (.iconst (-1), 1) := by decide +kernel
theorem dX6_goesAway_63 : decode cX6_goesAway 63 = .ok (.if_icmp .ne 51, 3) := by decide +kernel
theorem dX6_goesAway_66 : decode cX6_goesAway 66 = .ok (.aload_n 0, 1) := by decide +kernel
theorem dX6_goesAway_67 : decode cX6_goesAway 67 = .ok (.getfield 16, 3) := by decide +kernel
theorem dX6_goesAway_70 : decode cX6_goesAway 70 = .ok (.aload_n 0, 1) := by decide +kernel
theorem dX6_goesAway_71 : decode cX6_goesAway 71 = .ok (.getfield 29, 3) := by decide +kernel
theorem dX6_goesAway_74 : decode cX6_goesAway 74 = .ok (.iload 4, 2) := by decide +kernel
theorem dX6_goesAway_76 : decode cX6_goesAway 76 = .ok (.iaload, 1) := by decide +kernel
theorem dX6_goesAway_77 : decode cX6_goesAway 77 = .ok (.iaload, 1) := by decide +kernel
theorem dX6_goesAway_78 : decode cX6_goesAway 78 = .ok (.aload_n 0, 1) := by decide +kernel
theorem dX6_goesAway_79 : decode cX6_goesAway 79 = .ok (.iload_n 1, 1) := by decide +kernel
theorem dX6_goesAway_80 : decode cX6_goesAway 80 = .ok (.iconst 1, 1) := by decide +kernel
theorem dX6_goesAway_81 : decode cX6_goesAway 81 = .ok (.invokevirtual 115, 3) := by decide +kernel
theorem dX6_goesAway_84 : decode cX6_goesAway 84 = .ok (.if_icmp .ge 6, 3) := by decide +kernel
theorem dX6_goesAway_87 : decode cX6_goesAway 87 = .ok (.goto 27, 3) := by decide +kernel
theorem dX6_goesAway_90 : decode cX6_goesAway 90 = .ok (.iload_n 3, 1) := by decide +kernel
theorem dX6_goesAway_91 : decode cX6_goesAway 91 = .ok (.iconst (-1), 1) := by decide +kernel
theorem dX6_goesAway_92 : decode cX6_goesAway 92 = .ok (.if_icmp .eq 19, 3) := by decide +kernel
theorem dX6_goesAway_95 : decode cX6_goesAway 95 = .ok (.aload_n 0, 1) := by decide +kernel
theorem dX6_goesAway_96 : decode cX6_goesAway 96 = .ok (.getfield 32, 3) := by decide +kernel
theorem dX6_goesAway_99 : decode cX6_goesAway 99 = .ok (.iload 4, 2) := by decide +kernel
theorem dX6_goesAway_101 : decode cX6_goesAway 101 = .ok (.iaload, 1) := by decide +kernel
theorem dX6_goesAway_102 : decode cX6_goesAway 102 = .ok (.aload_n 0, 1) := by decide +kernel
theorem dX6_goesAway_103 : decode cX6_goesAway 103 = .ok (.getfield 32, 3) := by decide +kernel
theorem dX6_goesAway_106 : decode cX6_goesAway 106 = .ok (.iload_n 3, 1) := by decide +kernel
theorem dX6_goesAway_107 : decode cX6_goesAway 107 = .ok (.iaload, 1) := by decide +kernel
theorem dX6_goesAway_108 : decode cX6_goesAway 108 = .ok (.if_icmp .ge 6, 3) := by decide +kernel
theorem dX6_goesAway_111 : decode cX6_goesAway 111 = .ok (.iload 4, 2) := by decide +kernel
theorem dX6_goesAway_113 : decode cX6_goesAway 113 = .ok (.istore_n 3, 1) := by decide +kernel
theorem dX6_goesAway_114 : decode cX6_goesAway 114 = .ok (.iinc 4 1, 3) := by decide +kernel
theorem dX6_goesAway_117 : decode cX6_goesAway 117 = .ok (.goto (-112), 3) := by decide +kernel
theorem dX6_goesAway_120 : decode cX6_goesAway 120 = .ok (.iload_n 3, 1) := by decide +kernel
theorem dX6_goesAway_121 : decode cX6_goesAway 121 = .ok (.iconst (-1), 1) := by decide +kernel
theorem dX6_goesAway_122 : decode cX6_goesAway 122 = .ok (.if_icmp .ne 33, 3) := by decide +kernel
theorem dX6_goesAway_125 : decode cX6_goesAway 125 = .ok (.aload_n 0, 1) := by decide +kernel
theorem dX6_goesAway_126 : decode cX6_goesAway 126 = .ok (.iload_n 1, 1) := by decide +kernel
theorem dX6_goesAway_127 : decode cX6_goesAway 127 = .ok (.iconst 4, 1) := by decide +kernel
theorem dX6_goesAway_128 : decode cX6_goesAway 128 = .ok (.iconst 5, 1) := by decide +kernel
theorem dX6_goesAway_129 : decode cX6_goesAway 129 = .ok (.invokevirtual 108, 3) := by decide +kernel
theorem dX6_goesAway_132 : decode cX6_goesAway 132 = .ok (.aload_n 0, 1) := by decide +kernel
theorem dX6_goesAway_133 : decode cX6_goesAway 133 = .ok (.iload_n 1, 1) := by decide +kernel
theorem dX6_goesAway_134 : decode cX6_goesAway 134 = .ok (.bipush 11, 2) := by decide +kernel
theorem dX6_goesAway_136 : decode cX6_goesAway 136 = .ok (.aload_n 0, 1) := by decide +kernel
theorem dX6_goesAway_137 : decode cX6_goesAway 137 = .ok (.iload_n 1, 1) := by decide +kernel
theorem dX6_goesAway_138 : decode cX6_goesAway 138 = .ok (.bipush 10, 2) := by decide +kernel
end
section
theorem dX6_goesAway_140 : decode cX6_goesAway 140 = .ok (.invokevirtual 115, 3) := by decide +kernel
theorem dX6_goesAway_143 : decode cX6_goesAway 143 = .ok (.invokevirtual 108, 3) := by decide +kernel
theorem dX6_goesAway_146 : decode cX6_goesAway 146 = .ok (.aload_n 0, 1) := by decide +kernel
theorem dX6_goesAway_147 : decode cX6_goesAway 147 = .ok (.bipush 8, 2) := by decide +kernel
theorem dX6_goesAway_149 : decode cX6_goesAway 149 = .ok (.iload_n 1, 1) := by decide +kernel
theorem dX6_goesAway_150 : decode cX6_goesAway 150 = .ok (.iload_n 2, 1) := by decide +kernel
theorem dX6_goesAway_151 : decode cX6_goesAway 151 = .ok (.invokevirtual 175, 3) := by decide +kernel
theorem dX6_goesAway_154 : decode cX6_goesAway 154 = .ok (.return_, 1) := by decide +kernel
theorem dX6_goesAway_155 : decode cX6_goesAway 155 = .ok (.aload_n 0, 1) := by decide +kernel
theorem dX6_goesAway_156 : decode cX6_goesAway 156 = .ok (.iload_n 1, 1) := by decide +kernel
theorem dX6_goesAway_157 : decode cX6_goesAway 157 = .ok (.iconst 0, 1) := by decide +kernel
theorem dX6_goesAway_158 : decode cX6_goesAway 158 = .ok (.iload_n 3, 1) := by decide +kernel
theorem dX6_goesAway_159 : decode cX6_goesAway 159 = .ok (.invokevirtual 108, 3) := by decide +kernel
theorem dX6_goesAway_162 : decode cX6_goesAway 162 = .ok (.aload_n 0, 1) := by decide +kernel
theorem dX6_goesAway_163 : decode cX6_goesAway 163 = .ok (.iload_n 1, 1) := by decide +kernel
theorem dX6_goesAway_164 : decode cX6_goesAway 164 = .ok (.iconst 4, 1) := by decide +kernel
theorem dX6_goesAway_165 : decode cX6_goesAway 165 = .ok (.aload_n 0, 1) := by decide +kernel
theorem dX6_goesAway_166 : decode cX6_goesAway 166 = .ok (.iload_n 1, 1) := by decide +kernel
theorem dX6_goesAway_167 : decode cX6_goesAway 167 = .ok (.iconst 4, 1) := by decide +kernel
theorem dX6_goesAway_168 : decode cX6_goesAway 168 = .ok (.invokevirtual 115, 3) := by decide +kernel
theorem dX6_goesAway_171 : decode cX6_goesAway 171 = .ok (.ifCond .ne 7, 3) := by decide +kernel
theorem dX6_goesAway_174 : decode cX6_goesAway 174 = .ok (.iconst 0, 1) := by decide +kernel
theorem dX6_goesAway_175 : decode cX6_goesAway 175 = .ok (.goto 4, 3) := by decide +kernel
theorem dX6_goesAway_178 : decode cX6_goesAway 178 = .ok (.iconst 1, 1) := by decide +kernel
theorem dX6_goesAway_179 : decode cX6_goesAway 179 = .ok (.invokevirtual 108, 3) := by decide +kernel
theorem dX6_goesAway_182 : decode cX6_goesAway 182 = .ok (.aload_n 0, 1) := by decide +kernel
theorem dX6_goesAway_183 : decode cX6_goesAway 183 = .ok (.iload_n 1, 1) := by decide +kernel
theorem dX6_goesAway_184 : decode cX6_goesAway 184 = .ok (.bipush 12, 2) := by decide +kernel
theorem dX6_goesAway_186 : decode cX6_goesAway 186 = .ok (.aload_n 0, 1) := by decide +kernel
theorem dX6_goesAway_187 : decode cX6_goesAway 187 = .ok (.iload_n 1, 1) := by decide +kernel
theorem dX6_goesAway_188 : decode cX6_goesAway 188 = .ok (.bipush 12, 2) := by decide +kernel
theorem dX6_goesAway_190 : decode cX6_goesAway 190 = .ok (.invokevirtual 115, 3) := by decide +kernel
theorem dX6_goesAway_193 : decode cX6_goesAway 193 = .ok (.iconst 1, 1) := by decide +kernel
theorem dX6_goesAway_194 : decode cX6_goesAway 194 = .ok (.iadd, 1) := by decide +kernel
theorem dX6_goesAway_195 : decode cX6_goesAway 195 = .ok (.invokevirtual 108, 3) := by decide +kernel
theorem dX6_goesAway_198 : decode cX6_goesAway 198 = .ok (.aload_n 0, 1) := by decide +kernel
theorem dX6_goesAway_199 : decode cX6_goesAway 199 = .ok (.bipush 7, 2) := by decide +kernel
theorem dX6_goesAway_201 : decode cX6_goesAway 201 = .ok (.iload_n 1, 1) := by decide +kernel
theorem dX6_goesAway_202 : decode cX6_goesAway 202 = .ok (.iload_n 2, 1) := by decide +kernel
theorem dX6_goesAway_203 : decode cX6_goesAway 203 = .ok (.invokevirtual 175, 3) := by decide +kernel
theorem dX6_goesAway_206 : decode cX6_goesAway 206 = .ok (.return_, 1) := by decide +kernel
set_option maxRecDepth 20000 in
theorem ggX6_settle_X6_isIn : GoodIn wsX6_settle wsX6_isIn := goodIn_r _ [5] (by decide +kernel) (by decide +kernel)
set_option maxRecDepth 20000 in
theorem gX6_settle_X6_isIn : GoodIn wsX6_settle (va_wsS RX6 84 yX6_isIn wsX6_isIn) := goodIn_app (goodIn_of _ (by decide +kernel)) ggX6_settle_X6_isIn
set_option maxRecDepth 20000 in
theorem ggX6_settle_X6_turn : GoodIn wsX6_settle wsX6_turn := goodIn_r _ [9, 10, 11, 12, 13, 14, 15, 16, 4, 17, 18, 19, 20, 21, 22, 23, 24, 25, 26, 27, 28, 29, 30, 31, 32, 33, 34, 35, 36, 37, 38, 39, 40, 41, 42, 43, 44, 45, 46, 47, 48, 49, 50, 51, 52, 53, 54, 55, 56, 57, 58, 59, 60, 61, 62, 63, 64, 65, 66, 67, 68, 69, 70, 71, 72, 73, 74, 75, 76, 77, 78, 79, 80, 81, 82, 83, 84, 85, 86, 87, 88, 89, 90, 91, 92, 93, 94, 95, 96, 97, 98, 99, 100, 101, 1, 102, 103, 104, 105, 106, 107, 108, 109, 110, 111, 112, 113, 114, 115, 116, 117, 118, 119, 120, 121, 122, 123, 124, 125, 126, 127, 128, 129, 130, 131, 132, 133, 134, 135, 136, 137, 138, 139, 140, 141, 142, 143, 144, 145] (by decide +kernel) (by decide +kernel)
set_option maxRecDepth 20000 in
theorem gX6_settle_X6_turn : GoodIn wsX6_settle (wsV RX6 194 RX6 yX6_turn wsX6_turn) := goodIn_app (goodIn_of _ (by decide +kernel)) ggX6_settle_X6_turn
theorem dX6_settle_0 : decode cX6_settle 0 = .ok (.iload_n 1, 1) := by decide +kernel
theorem dX6_settle_1 : decode cX6_settle 1 = .ok (.iconst 0, 1) := by decide +kernel
theorem dX6_settle_2 : decode cX6_settle 2 = .ok (.sipush 500, 3) := by decide +kernel
theorem dX6_settle_5 : decode cX6_settle 5 = .ok (.invokestatic 84, 3) := by decide +kernel
theorem dX6_settle_8 : decode cX6_settle 8 = .ok (.ifCond .ne 5, 3) := by decide +kernel
theorem dX6_settle_11 : decode cX6_settle 11 = .ok (.iconst (-1), 1) := by decide +kernel
theorem dX6_settle_12 : decode cX6_settle 12 = .ok (.ireturn, 1) := by decide +kernel
theorem dX6_settle_13 : decode cX6_settle 13 = .ok (.iconst 0, 1) := by decide +kernel
theorem dX6_settle_14 : decode cX6_settle 14 = .ok (.istore_n 2, 1) := by decide +kernel
theorem dX6_settle_15 : decode cX6_settle 15 = .ok (.iconst 1, 1) := by decide +kernel
theorem dX6_settle_16 : decode cX6_settle 16 = .ok (.istore_n 3, 1) := by decide +kernel
theorem dX6_settle_17 : decode cX6_settle 17 = .ok (.iload_n 3, 1) := by decide +kernel
theorem dX6_settle_18 : decode cX6_settle 18 = .ok (.ifCond .eq 49, 3) := by decide +kernel
theorem dX6_settle_21 : decode cX6_settle 21 = .ok (.iload_n 2, 1) := by decide +kernel
theorem dX6_settle_22 : decode cX6_settle 22 = .ok (.iload_n 1, 1) := by decide +kernel
theorem dX6_settle_23 : decode cX6_settle 23 = .ok (.if_icmp .ge 44, 3) := by decide +kernel
theorem dX6_settle_26 : decode cX6_settle 26 = .ok (.iconst 0, 1) := by decide +kernel
theorem dX6_settle_27 : decode cX6_settle 27 = .ok (.istore_n 3, 1) := by decide +kernel
theorem dX6_settle_28 : decode cX6_settle 28 = .ok (.iconst 0, 1) := by decide +kernel
theorem dX6_settle_29 : decode cX6_settle 29 = .ok (.istore 4, 2) := by decide +kernel
theorem dX6_settle_31 : decode cX6_settle 31 = .ok (.iload 4, 2) := by decide +kernel
theorem dX6_settle_33 : decode cX6_settle 33 = .ok (.aload_n 0, 1) := by decide +kernel
theorem dX6_settle_34 : decode cX6_settle 34 = .ok (.getfield 78, 3) := by decide +kernel
theorem dX6_settle_37 : decode cX6_settle 37 = .ok (.if_icmp .ge 20, 3) := by decide +kernel
theorem dX6_settle_40 : decode cX6_settle 40 = .ok (.iload_n 3, 1) := by decide +kernel
theorem dX6_settle_41 : decode cX6_settle 41 = .ok (.ifCond .ne 16, 3) := by decide +kernel
theorem dX6_settle_44 : decode cX6_settle 44 = .ok (.aload_n 0, 1) := by decide +kernel
theorem dX6_settle_45 : decode cX6_settle 45 = .ok (.iload 4, 2) := by decide +kernel
theorem dX6_settle_47 : decode cX6_settle 47 = .ok (.invokevirtual 194, 3) := by decide +kernel
theorem dX6_settle_50 : decode cX6_settle 50 = .ok (.istore_n 3, 1) := by decide +kernel
theorem dX6_settle_51 : decode cX6_settle 51 = .ok (.iinc 4 1, 3) := by decide +kernel
theorem dX6_settle_54 : decode cX6_settle 54 = .ok (.goto (-23), 3) := by decide +kernel
theorem dX6_settle_57 : decode cX6_settle 57 = .ok (.iload_n 3, 1) := by decide +kernel
theorem dX6_settle_58 : decode cX6_settle 58 = .ok (.ifCond .eq (-41), 3) := by decide +kernel
theorem dX6_settle_61 : decode cX6_settle 61 = .ok (.iinc 2 1, 3) := by decide +kernel
theorem dX6_settle_64 : decode cX6_settle 64 = .ok (.goto (-47), 3) := by decide +kernel
theorem dX6_settle_67 : decode cX6_settle 67 = .ok (.iload_n 2, 1) := by decide +kernel
theorem dX6_settle_68 : decode cX6_settle 68 = .ok (.ireturn, 1) := by decide +kernel
set_option maxRecDepth 20000 in
theorem ggX6_depart_X6_isSailing : GoodIn wsX6_depart wsX6_isSailing := goodIn_r _ [8, 9, 52, 53, 54, 55, 56, 57, 58, 59, 60, 61, 62, 63, 64, 65, 66, 67, 68, 69, 70, 71, 72, 73, 74, 75, 76, 77, 78, 79, 80, 81, 82] (by decide +kernel) (by decide +kernel)
set_option maxRecDepth 20000 in
theorem gX6_depart_X6_isSailing : GoodIn wsX6_depart (wsV RX6 102 RX6 yX6_isSailing wsX6_isSailing) := goodIn_app (goodIn_of _ (by decide +kernel)) ggX6_depart_X6_isSailing
set_option maxRecDepth 20000 in
theorem ggX6_depart_X6_hasTurn : GoodIn wsX6_depart wsX6_hasTurn := goodIn_r _ [13, 14, 15, 16, 7, 17, 18, 1, 19, 3, 20, 21, 22, 23, 24, 25, 26, 27, 28, 29, 30, 31, 32, 33, 34, 35, 36, 37, 38, 39, 40, 41, 42, 43, 52, 53, 54, 55, 56, 57, 58, 59, 60, 61, 62, 63, 64, 65, 66, 67, 68, 69, 70, 71, 72, 73, 74, 75, 76, 77, 78, 79, 80, 81, 82] (by decide +kernel) (by decide +kernel)
set_option maxRecDepth 20000 in
theorem gX6_depart_X6_hasTurn : GoodIn wsX6_depart (wsV RX6 127 RX6 yX6_hasTurn wsX6_hasTurn) := goodIn_app (goodIn_of _ (by decide +kernel)) ggX6_depart_X6_hasTurn
set_option maxRecDepth 20000 in
theorem ggX6_depart_X6_of : GoodIn wsX6_depart wsX6_of := goodIn_r _ [33, 34, 52, 53, 54, 55, 56, 57, 58, 59, 60, 61, 62, 63, 64, 65, 66, 67, 68, 69, 70, 71, 72, 73, 74, 75, 76, 77, 78, 79, 80, 81, 82] (by decide +kernel) (by decide +kernel)
set_option maxRecDepth 20000 in
theorem gX6_depart_X6_of : GoodIn wsX6_depart (wsV RX6 115 RX6 yX6_of wsX6_of) := goodIn_app (goodIn_of _ (by decide +kernel)) ggX6_depart_X6_of
set_option maxRecDepth 20000 in
theorem ggX6_depart_X6_comesOff : GoodIn wsX6_depart wsX6_comesOff := goodIn_r _ [47, 48, 49, 50, 7, 51, 34, 52, 53, 54, 55, 56, 57, 58, 59, 60, 61, 62, 63, 64, 65, 66, 67, 68, 69, 70, 71, 72, 73, 74, 75, 76, 77, 78, 79, 80, 81, 82] (by decide +kernel) (by decide +kernel)
set_option maxRecDepth 20000 in
theorem gX6_depart_X6_comesOff : GoodIn wsX6_depart (wsV RX6 185 RX6 yX6_comesOff wsX6_comesOff) := goodIn_app (goodIn_of _ (by decide +kernel)) ggX6_depart_X6_comesOff
set_option maxRecDepth 20000 in
theorem ggX6_depart_X6_put : GoodIn wsX6_depart wsX6_put := goodIn_r _ [51, 34, 52, 53, 54, 55, 56, 57, 58, 59, 60, 61, 62, 63, 64, 65, 66, 67, 68, 69, 70, 71, 72, 73, 74, 75, 76, 77, 78, 79, 80, 81, 82] (by decide +kernel) (by decide +kernel)
set_option maxRecDepth 20000 in
theorem gX6_depart_X6_put : GoodIn wsX6_depart (wsV RX6 108 RX6 yX6_put wsX6_put) := goodIn_app (goodIn_of _ (by decide +kernel)) ggX6_depart_X6_put
theorem dX6_depart_0 : decode cX6_depart 0 = .ok (.aload_n 0, 1) := by decide +kernel
theorem dX6_depart_1 : decode cX6_depart 1 = .ok (.iload_n 1, 1) := by decide +kernel
theorem dX6_depart_2 : decode cX6_depart 2 = .ok (.invokevirtual 102, 3) := by decide +kernel
theorem dX6_depart_5 : decode cX6_depart 5 = .ok (.ifCond .eq 31, 3) := by decide +kernel
theorem dX6_depart_8 : decode cX6_depart 8 = .ok (.aload_n 0, 1) := by decide +kernel
theorem dX6_depart_9 : decode cX6_depart 9 = .ok (.getfield 38, 3) := by decide +kernel
theorem dX6_depart_12 : decode cX6_depart 12 = .ok (.iload_n 1, 1) := by decide +kernel
theorem dX6_depart_13 : decode cX6_depart 13 = .ok (.iaload, 1) := by decide +kernel
theorem dX6_depart_14 : decode cX6_depart 14 = .ok (.iconst 1, 1) := by decide +kernel
theorem dX6_depart_15 : decode cX6_depart 15 = .ok (.if_icmp .ne 21, 3) := by decide +kernel
theorem dX6_depart_18 : decode cX6_depart 18 = .ok (.aload_n 0, 1) := by decide +kernel
theorem dX6_depart_19 : decode cX6_depart 19 = .ok (.getfield 44, 3) := by decide +kernel
theorem dX6_depart_22 : decode cX6_depart 22 = .ok (.iload_n 1, 1) := by decide +kernel
theorem dX6_depart_23 : decode cX6_depart 23 = .ok (.iaload, 1) := by decide +kernel
theorem dX6_depart_24 : decode cX6_depart 24 = .ok (.iconst (-1), 1) := by decide +kernel
theorem dX6_depart_25 : decode cX6_depart 25 = .ok (.if_icmp .ne 11, 3) := by decide +kernel
theorem dX6_depart_28 : decode cX6_depart 28 = .ok (.aload_n 0, 1) := by decide +kernel
theorem dX6_depart_29 : decode cX6_depart 29 = .ok (.iload_n 1, 1) := by decide +kernel
theorem dX6_depart_30 : decode cX6_depart 30 = .ok (.invokevirtual 127, 3) := by decide +kernel
theorem dX6_depart_33 : decode cX6_depart 33 = .ok (.ifCond .eq 5, 3) := by decide +kernel
theorem dX6_depart_36 : decode cX6_depart 36 = .ok (.iconst (-1), 1) := by decide +kernel
theorem dX6_depart_37 : decode cX6_depart 37 = .ok (.ireturn, 1) := by decide +kernel
theorem dX6_depart_38 : decode cX6_depart 38 = .ok (.aload_n 0, 1) := by decide +kernel
theorem dX6_depart_39 : decode cX6_depart 39 = .ok (.getfield 38, 3) := by decide +kernel
theorem dX6_depart_42 : decode cX6_depart 42 = .ok (.iload_n 1, 1) := by decide +kernel
theorem dX6_depart_43 : decode cX6_depart 43 = .ok (.iconst 2, 1) := by decide +kernel
theorem dX6_depart_44 : decode cX6_depart 44 = .ok (.iastore, 1) := by decide +kernel
theorem dX6_depart_45 : decode cX6_depart 45 = .ok (.iconst 0, 1) := by decide +kernel
theorem dX6_depart_46 : decode cX6_depart 46 = .ok (.istore_n 2, 1) := by decide +kernel
theorem dX6_depart_47 : decode cX6_depart 47 = .ok (.iconst 0, 1) := by decide +kernel
theorem dX6_depart_48 : decode cX6_depart 48 = .ok (.istore_n 3, 1) := by decide +kernel
theorem dX6_depart_49 : decode cX6_depart 49 = .ok (.iload_n 3, 1) := by decide +kernel
theorem dX6_depart_50 : decode cX6_depart 50 = .ok (.aload_n 0, 1) := by decide +kernel
theorem dX6_depart_51 : decode cX6_depart 51 = .ok (.getfield 74, 3) := by decide +kernel
theorem dX6_depart_54 : decode cX6_depart 54 = .ok (.if_icmp .ge 152, 3) := by decide +kernel
theorem dX6_depart_57 : decode cX6_depart 57 = .ok (.aload_n 0, 1) := by decide +kernel
theorem dX6_depart_58 : decode cX6_depart 58 = .ok (.iload_n 3, 1) := by decide +kernel
theorem dX6_depart_59 : decode cX6_depart 59 = .ok (.iconst 0, 1) := by decide +kernel
theorem dX6_depart_60 : decode cX6_depart 60 = .ok (.invokevirtual 115, 3) := by decide +kernel
theorem dX6_depart_63 : decode cX6_depart 63 = .ok (.iload_n 1, 1) := by decide +kernel
theorem dX6_depart_64 : decode cX6_depart 64 = .ok (.if_icmp .eq 6, 3) := by decide +kernel
theorem dX6_depart_67 : decode cX6_depart 67 = .ok (.goto 133, 3) := by decide +kernel
theorem dX6_depart_70 : decode cX6_depart 70 = .ok (.aload_n 0, 1) := by decide +kernel
theorem dX6_depart_71 : decode cX6_depart 71 = .ok (.iload_n 3, 1) := by decide +kernel
theorem dX6_depart_72 : decode cX6_depart 72 = .ok (.iconst 4, 1) := by decide +kernel
theorem dX6_depart_73 : decode cX6_depart 73 = .ok (.invokevirtual 115, 3) := by decide +kernel
theorem dX6_depart_76 : decode cX6_depart 76 = .ok (.tableswitch 124 0 4 #[97, 124, 124, 36, 73], 36) := by decide +kernel
theorem dX6_depart_112 : decode cX6_depart 112 = .ok (.aload_n 0, 1) := by decide +kernel
theorem dX6_depart_113 : decode cX6_depart 113 = .ok (.iload_n 3, 1) := by decide +kernel
theorem dX6_depart_114 : decode cX6_depart 114 = .ok (.bipush 9, 2) := by decide +kernel
theorem dX6_depart_116 : decode cX6_depart 116 = .ok (.invokevirtual 115, 3) := by decide +kernel
theorem dX6_depart_119 : decode cX6_depart 119 = .ok (.istore 4, 2) := by decide +kernel
theorem dX6_depart_121 : decode cX6_depart 121 = .ok (.aload_n 0, 1) := by decide +kernel
theorem dX6_depart_122 : decode cX6_depart 122 = .ok (.iload_n 3, 1) := by decide +kernel
theorem dX6_depart_123 : decode cX6_depart 123 = .ok (.invokevirtual 185, 3) := by decide +kernel
theorem dX6_depart_126 : decode cX6_depart 126 = .ok (.aload_n 0, 1) := by decide +kernel
theorem dX6_depart_127 : decode cX6_depart 127 = .ok (.iload_n 3, 1) := by decide +kernel
theorem dX6_depart_128 : decode cX6_depart 128 = .ok (.bipush 9, 2) := by decide +kernel
theorem dX6_depart_130 : decode cX6_depart 130 = .ok (.iload 4, 2) := by decide +kernel
theorem dX6_depart_132 : decode cX6_depart 132 = .ok (.invokevirtual 108, 3) := by decide +kernel
theorem dX6_depart_135 : decode cX6_depart 135 = .ok (.aload_n 0, 1) := by decide +kernel
theorem dX6_depart_136 : decode cX6_depart 136 = .ok (.iload_n 3, 1) := by decide +kernel
theorem dX6_depart_137 : decode cX6_depart 137 = .ok (.iconst 4, 1) := by decide +kernel
theorem dX6_depart_138 : decode cX6_depart 138 = .ok (.bipush 6, 2) := by decide +kernel
theorem dX6_depart_140 : decode cX6_depart 140 = .ok (.invokevirtual 108, 3) := by decide +kernel
theorem dX6_depart_143 : decode cX6_depart 143 = .ok (.iinc 2 1, 3) := by decide +kernel
theorem dX6_depart_146 : decode cX6_depart 146 = .ok (.goto 54, 3) := by decide +kernel
theorem dX6_depart_149 : decode cX6_depart 149 = .ok (.aload_n 0, 1) := by decide +kernel
theorem dX6_depart_150 : decode cX6_depart 150 = .ok (.iload_n 3, 1) := by decide +kernel
theorem dX6_depart_151 : decode cX6_depart 151 = .ok (.iconst 4, 1) := by decide +kernel
theorem dX6_depart_152 : decode cX6_depart 152 = .ok (.iconst 5, 1) := by decide +kernel
theorem dX6_depart_153 : decode cX6_depart 153 = .ok (.invokevirtual 108, 3) := by decide +kernel
theorem dX6_depart_156 : decode cX6_depart 156 = .ok (.aload_n 0, 1) := by decide +kernel
theorem dX6_depart_157 : decode cX6_depart 157 = .ok (.iload_n 3, 1) := by decide +kernel
theorem dX6_depart_158 : decode cX6_depart 158 = .ok (.bipush 11, 2) := by decide +kernel
theorem dX6_depart_160 : decode cX6_depart 160 = .ok (.aload_n 0, 1) := by decide +kernel
theorem dX6_depart_161 : decode cX6_depart 161 = .ok (.iload_n 3, 1) := by decide +kernel
theorem dX6_depart_162 : decode cX6_depart 162 = .ok (.bipush 10, 2) := by decide +kernel
theorem dX6_depart_164 : decode cX6_depart 164 = .ok (.invokevirtual 115, 3) := by decide +kernel
theorem dX6_depart_167 : decode cX6_depart 167 = .ok (.invokevirtual 108, 3) := by decide +kernel
theorem dX6_depart_170 : decode cX6_depart 170 = .ok (.goto 30, 3) := by decide +kernel
theorem dX6_depart_173 : decode cX6_depart 173 = .ok (.aload_n 0, 1) := by decide +kernel
theorem dX6_depart_174 : decode cX6_depart 174 = .ok (.iload_n 3, 1) := by decide +kernel
theorem dX6_depart_175 : decode cX6_depart 175 = .ok (.iconst 4, 1) := by decide +kernel
theorem dX6_depart_176 : decode cX6_depart 176 = .ok (.bipush 7, 2) := by decide +kernel
theorem dX6_depart_178 : decode cX6_depart 178 = .ok (.invokevirtual 108, 3) := by decide +kernel
theorem dX6_depart_181 : decode cX6_depart 181 = .ok (.aload_n 0, 1) := by decide +kernel
theorem dX6_depart_182 : decode cX6_depart 182 = .ok (.iload_n 3, 1) := by decide +kernel
theorem dX6_depart_183 : decode cX6_depart 183 = .ok (.bipush 11, 2) := by decide +kernel
theorem dX6_depart_185 : decode cX6_depart 185 = .ok (.aload_n 0, 1) := by decide +kernel
theorem dX6_depart_186 : decode cX6_depart 186 = .ok (.iload_n 3, 1) := by decide +kernel
theorem dX6_depart_187 : decode cX6_depart 187 = .ok (.bipush 10, 2) := by decide +kernel
theorem dX6_depart_189 : decode cX6_depart 189 = .ok (.invokevirtual 115, 3) := by decide +kernel
theorem dX6_depart_192 : decode cX6_depart 192 = .ok (.iconst 2, 1) := by decide +kernel
theorem dX6_depart_193 : decode cX6_depart 193 = .ok (.idiv, 1) := by decide +kernel
theorem dX6_depart_194 : decode cX6_depart 194 = .ok (.invokevirtual 108, 3) := by decide +kernel
theorem dX6_depart_197 : decode cX6_depart 197 = .ok (.goto 3, 3) := by decide +kernel
theorem dX6_depart_200 : decode cX6_depart 200 = .ok (.iinc 3 1, 3) := by decide +kernel
theorem dX6_depart_203 : decode cX6_depart 203 = .ok (.goto (-154), 3) := by decide +kernel
theorem dX6_depart_206 : decode cX6_depart 206 = .ok (.iload_n 2, 1) := by decide +kernel
theorem dX6_depart_207 : decode cX6_depart 207 = .ok (.ireturn, 1) := by decide +kernel
set_option maxRecDepth 20000 in
theorem ggX6_off_X6_isTicket : GoodIn wsX6_off wsX6_isTicket := goodIn_r _ [9, 4, 27, 28, 29, 30, 31, 32, 33, 34, 35, 36, 37, 38, 39, 40, 41, 42, 43, 44, 45, 46, 47, 48, 49, 50, 51, 52, 53, 54, 55, 56, 57] (by decide +kernel) (by decide +kernel)
set_option maxRecDepth 20000 in
theorem gX6_off_X6_isTicket : GoodIn wsX6_off (wsV RX6 112 RX6 yX6_isTicket wsX6_isTicket) := goodIn_app (goodIn_of _ (by decide +kernel)) ggX6_off_X6_isTicket
set_option maxRecDepth 20000 in
theorem ggX6_off_X6_of : GoodIn wsX6_off wsX6_of := goodIn_r _ [13, 14, 27, 28, 29, 30, 31, 32, 33, 34, 35, 36, 37, 38, 39, 40, 41, 42, 43, 44, 45, 46, 47, 48, 49, 50, 51, 52, 53, 54, 55, 56, 57] (by decide +kernel) (by decide +kernel)
set_option maxRecDepth 20000 in
theorem gX6_off_X6_of : GoodIn wsX6_off (wsV RX6 115 RX6 yX6_of wsX6_of) := goodIn_app (goodIn_of _ (by decide +kernel)) ggX6_off_X6_of
set_option maxRecDepth 20000 in
theorem ggX6_off_X6_isAboard : GoodIn wsX6_off wsX6_isAboard := goodIn_r _ [18, 10, 11, 12, 8, 13, 14, 27, 28, 29, 30, 31, 32, 33, 34, 35, 36, 37, 38, 39, 40, 41, 42, 43, 44, 45, 46, 47, 48, 49, 50, 51, 52, 53, 54, 55, 56, 57] (by decide +kernel) (by decide +kernel)
set_option maxRecDepth 20000 in
theorem gX6_off_X6_isAboard : GoodIn wsX6_off (wsV RX6 130 RX6 yX6_isAboard wsX6_isAboard) := goodIn_app (goodIn_of _ (by decide +kernel)) ggX6_off_X6_isAboard
set_option maxRecDepth 20000 in
theorem ggX6_off_X6_comesOff : GoodIn wsX6_off wsX6_comesOff := goodIn_r _ [22, 23, 24, 25, 8, 26, 14, 27, 28, 29, 30, 31, 32, 33, 34, 35, 36, 37, 38, 39, 40, 41, 42, 43, 44, 45, 46, 47, 48, 49, 50, 51, 52, 53, 54, 55, 56, 57] (by decide +kernel) (by decide +kernel)
set_option maxRecDepth 20000 in
theorem gX6_off_X6_comesOff : GoodIn wsX6_off (wsV RX6 185 RX6 yX6_comesOff wsX6_comesOff) := goodIn_app (goodIn_of _ (by decide +kernel)) ggX6_off_X6_comesOff
theorem dX6_off_0 : decode cX6_off 0 = .ok (.aload_n 0, 1) := by decide +kernel
theorem dX6_off_1 : decode cX6_off 1 = .ok (.iload_n 1, 1) := by decide +kernel
theorem dX6_off_2 : decode cX6_off 2 = .ok (.invokevirtual 112, 3) := by decide +kernel
theorem dX6_off_5 : decode cX6_off 5 = .ok (.ifCond .eq 13, 3) := by decide +kernel
theorem dX6_off_8 : decode cX6_off 8 = .ok (.aload_n 0, 1) := by decide +kernel
theorem dX6_off_9 : decode cX6_off 9 = .ok (.iload_n 1, 1) := by decide +kernel
theorem dX6_off_10 : decode cX6_off 10 = .ok (.iconst 4, 1) := by decide +kernel
theorem dX6_off_11 : decode cX6_off 11 = .ok (.invokevirtual 115, 3) := by decide +kernel
theorem dX6_off_14 : decode cX6_off 14 = .ok (.iconst 3, 1) := by decide +kernel
theorem dX6_off_15 : decode cX6_off 15 = .ok (.if_icmp .eq 5, 3) := by decide +kernel
theorem dX6_off_18 : decode cX6_off 18 = .ok (.iconst 0, 1) := by decide +kernel
theorem dX6_off_19 : decode cX6_off 19 = .ok (.ireturn, 1) := by decide +kernel
theorem dX6_off_20 : decode cX6_off 20 = .ok (.aload_n 0, 1) := by decide +kernel
theorem dX6_off_21 : decode cX6_off 21 = .ok (.iload_n 1, 1) := by decide +kernel
theorem dX6_off_22 : decode cX6_off 22 = .ok (.iconst 0, 1) := by decide +kernel
theorem dX6_off_23 : decode cX6_off 23 = .ok (.invokevirtual 115, 3) := by decide +kernel
theorem dX6_off_26 : decode cX6_off 26 = .ok (.istore_n 2, 1) := by decide +kernel
theorem dX6_off_27 : decode cX6_off 27 = .ok (.aload_n 0, 1) := by decide +kernel
theorem dX6_off_28 : decode cX6_off 28 = .ok (.getfield 38, 3) := by decide +kernel
theorem dX6_off_31 : decode cX6_off 31 = .ok (.iload_n 2, 1) := by decide +kernel
theorem dX6_off_32 : decode cX6_off 32 = .ok (.iaload, 1) := by decide +kernel
theorem dX6_off_33 : decode cX6_off 33 = .ok (.iconst 1, 1) := by decide +kernel
theorem dX6_off_34 : decode cX6_off 34 = .ok (.if_icmp .ne 23, 3) := by decide +kernel
theorem dX6_off_37 : decode cX6_off 37 = .ok (.aload_n 0, 1) := by decide +kernel
theorem dX6_off_38 : decode cX6_off 38 = .ok (.getfield 44, 3) := by decide +kernel
theorem dX6_off_41 : decode cX6_off 41 = .ok (.iload_n 2, 1) := by decide +kernel
theorem dX6_off_42 : decode cX6_off 42 = .ok (.iaload, 1) := by decide +kernel
theorem dX6_off_43 : decode cX6_off 43 = .ok (.iconst (-1), 1) := by decide +kernel
theorem dX6_off_44 : decode cX6_off 44 = .ok (.if_icmp .ne 13, 3) := by decide +kernel
theorem dX6_off_47 : decode cX6_off 47 = .ok (.aload_n 0, 1) := by decide +kernel
theorem dX6_off_48 : decode cX6_off 48 = .ok (.getfield 47, 3) := by decide +kernel
theorem dX6_off_51 : decode cX6_off 51 = .ok (.iload_n 2, 1) := by decide +kernel
theorem dX6_off_52 : decode cX6_off 52 = .ok (.iaload, 1) := by decide +kernel
theorem dX6_off_53 : decode cX6_off 53 = .ok (.iload_n 1, 1) := by decide +kernel
theorem dX6_off_54 : decode cX6_off 54 = .ok (.if_icmp .ne 5, 3) := by decide +kernel
theorem dX6_off_57 : decode cX6_off 57 = .ok (.iconst 0, 1) := by decide +kernel
theorem dX6_off_58 : decode cX6_off 58 = .ok (.ireturn, 1) := by decide +kernel
theorem dX6_off_59 : decode cX6_off 59 = .ok (.iconst 0, 1) := by decide +kernel
theorem dX6_off_60 : decode cX6_off 60 = .ok (.istore_n 3, 1) := by decide +kernel
theorem dX6_off_61 : decode cX6_off 61 = .ok (.iload_n 3, 1) := by decide +kernel
theorem dX6_off_62 : decode cX6_off 62 = .ok (.aload_n 0, 1) := by decide +kernel
theorem dX6_off_63 : decode cX6_off 63 = .ok (.getfield 74, 3) := by decide +kernel
theorem dX6_off_66 : decode cX6_off 66 = .ok (.if_icmp .ge 71, 3) := by decide +kernel
theorem dX6_off_69 : decode cX6_off 69 = .ok (.aload_n 0, 1) := by decide +kernel
theorem dX6_off_70 : decode cX6_off 70 = .ok (.iload_n 3, 1) := by decide +kernel
theorem dX6_off_71 : decode cX6_off 71 = .ok (.iload_n 2, 1) := by decide +kernel
theorem dX6_off_72 : decode cX6_off 72 = .ok (.invokevirtual 130, 3) := by decide +kernel
theorem dX6_off_75 : decode cX6_off 75 = .ok (.ifCond .eq 56, 3) := by decide +kernel
theorem dX6_off_78 : decode cX6_off 78 = .ok (.aload_n 0, 1) := by decide +kernel
theorem dX6_off_79 : decode cX6_off 79 = .ok (.iload_n 3, 1) := by decide +kernel
theorem dX6_off_80 : decode cX6_off 80 = .ok (.bipush 6, 2) := by decide +kernel
theorem dX6_off_82 : decode cX6_off 82 = .ok (.invokevirtual 115, 3) := by decide +kernel
theorem dX6_off_85 : decode cX6_off 85 = .ok (.aload_n 0, 1) := by decide +kernel
theorem dX6_off_86 : decode cX6_off 86 = .ok (.iload_n 1, 1) := by decide +kernel
theorem dX6_off_87 : decode cX6_off 87 = .ok (.bipush 6, 2) := by decide +kernel
theorem dX6_off_89 : decode cX6_off 89 = .ok (.invokevirtual 115, 3) := by decide +kernel
theorem dX6_off_92 : decode cX6_off 92 = .ok (.if_icmp .ne 39, 3) := by decide +kernel
theorem dX6_off_95 : decode cX6_off 95 = .ok (.aload_n 0, 1) := by decide +kernel
theorem dX6_off_96 : decode cX6_off 96 = .ok (.iload_n 3, 1) := by decide +kernel
theorem dX6_off_97 : decode cX6_off 97 = .ok (.bipush 7, 2) := by decide +kernel
theorem dX6_off_99 : decode cX6_off 99 = .ok (.invokevirtual 115, 3) := by decide +kernel
theorem dX6_off_102 : decode cX6_off 102 = .ok (.aload_n 0, 1) := by decide +kernel
theorem dX6_off_103 : decode cX6_off 103 = .ok (.iload_n 1, 1) := by decide +kernel
theorem dX6_off_104 : decode cX6_off 104 = .ok (.bipush 7, 2) := by decide +kernel
theorem dX6_off_106 : decode cX6_off 106 = .ok (.invokevirtual 115, 3) := by decide +kernel
theorem dX6_off_109 : decode cX6_off 109 = .ok (.if_icmp .ne 22, 3) := by decide +kernel
theorem dX6_off_112 : decode cX6_off 112 = .ok (.aload_n 0, 1) := by decide +kernel
theorem dX6_off_113 : decode cX6_off 113 = .ok (.iload_n 3, 1) := by decide +kernel
theorem dX6_off_114 : decode cX6_off 114 = .ok (.bipush 8, 2) := by decide +kernel
theorem dX6_off_116 : decode cX6_off 116 = .ok (.invokevirtual 115, 3) := by decide +kernel
theorem dX6_off_119 : decode cX6_off 119 = .ok (.aload_n 0, 1) := by decide +kernel
theorem dX6_off_120 : decode cX6_off 120 = .ok (.iload_n 1, 1) := by decide +kernel
theorem dX6_off_121 : decode cX6_off 121 = .ok (.bipush 8, 2) := by decide +kernel
theorem dX6_off_123 : decode cX6_off 123 = .ok (.invokevirtual 115, 3) := by decide +kernel
theorem dX6_off_126 : decode cX6_off 126 = .ok (.if_icmp .le 5, 3) := by decide +kernel
theorem dX6_off_129 : decode cX6_off 129 = .ok (.iconst 0, 1) := by decide +kernel
theorem dX6_off_130 : decode cX6_off 130 = .ok (.ireturn, 1) := by decide +kernel
theorem dX6_off_131 : decode cX6_off 131 = .ok (.iinc 3 1, 3) := by decide +kernel
theorem dX6_off_134 : decode cX6_off 134 = .ok (.goto (-73), 3) := by decide +kernel
theorem dX6_off_137 : decode cX6_off 137 = .ok (.aload_n 0, 1) := by decide +kernel
theorem dX6_off_138 : decode cX6_off 138 = .ok (.iload_n 1, 1) := by decide +kernel
theorem dX6_off_139 : decode cX6_off 139 = .ok (.invokevirtual 185, 3) := by decide +kernel
theorem dX6_off_142 : decode cX6_off 142 = .ok (.iconst 1, 1) := by decide +kernel
theorem dX6_off_143 : decode cX6_off 143 = .ok (.ireturn, 1) := by decide +kernel
set_option maxRecDepth 20000 in
theorem ggX6_shipOf_X6_isShip : GoodIn wsX6_shipOf wsX6_isShip := goodIn_r _ [12, 13, 30, 31, 32, 33, 34, 35, 36, 37, 38, 39, 40, 41, 42, 43, 44, 45, 46, 47, 48, 49, 50, 51, 52, 53, 54, 55, 56, 57, 58, 59, 60] (by decide +kernel) (by decide +kernel)
set_option maxRecDepth 20000 in
theorem gX6_shipOf_X6_isShip : GoodIn wsX6_shipOf (wsV RX6 88 RX6 yX6_isShip wsX6_isShip) := goodIn_app (goodIn_of _ (by decide +kernel)) ggX6_shipOf_X6_isShip
set_option maxRecDepth 20000 in
theorem ggX6_shipOf_X6_openOf : GoodIn wsX6_shipOf wsX6_openOf := goodIn_r _ [17, 18, 19, 20, 30, 31, 32, 33, 34, 35, 36, 37, 38, 39, 40, 41, 42, 43, 44, 45, 46, 47, 48, 49, 50, 51, 52, 53, 54, 55, 56, 57, 58, 59, 60] (by decide +kernel) (by decide +kernel)
set_option maxRecDepth 20000 in
theorem gX6_shipOf_X6_openOf : GoodIn wsX6_shipOf (wsV RX6 120 RX6 yX6_openOf wsX6_openOf) := goodIn_app (goodIn_of _ (by decide +kernel)) ggX6_shipOf_X6_openOf
set_option maxRecDepth 20000 in
theorem ggX6_shipOf_X6_isAboard : GoodIn wsX6_shipOf wsX6_isAboard := goodIn_r _ [24, 25, 26, 27, 11, 28, 29, 30, 31, 32, 33, 34, 35, 36, 37, 38, 39, 40, 41, 42, 43, 44, 45, 46, 47, 48, 49, 50, 51, 52, 53, 54, 55, 56, 57, 58, 59, 60] (by decide +kernel) (by decide +kernel)
set_option maxRecDepth 20000 in
theorem gX6_shipOf_X6_isAboard : GoodIn wsX6_shipOf (wsV RX6 130 RX6 yX6_isAboard wsX6_isAboard) := goodIn_app (goodIn_of _ (by decide +kernel)) ggX6_shipOf_X6_isAboard
theorem dX6_shipOf_0 : decode cX6_shipOf 0 = .ok (.aload_n 0, 1) := by decide +kernel
theorem dX6_shipOf_1 : decode cX6_shipOf 1 = .ok (.iload_n 1, 1) := by decide +kernel
theorem dX6_shipOf_2 : decode cX6_shipOf 2 = .ok (.invokevirtual 88, 3) := by decide +kernel
theorem dX6_shipOf_5 : decode cX6_shipOf 5 = .ok (.ifCond .ne 5, 3) := by decide +kernel
theorem dX6_shipOf_8 : decode cX6_shipOf 8 = .ok (.iconst (-1), 1) := by decide +kernel
theorem dX6_shipOf_9 : decode cX6_shipOf 9 = .ok (.ireturn, 1) := by decide +kernel
theorem dX6_shipOf_10 : decode cX6_shipOf 10 = .ok (.iconst 0, 1) := by decide +kernel
theorem dX6_shipOf_11 : decode cX6_shipOf 11 = .ok (.istore_n 3, 1) := by decide +kernel
theorem dX6_shipOf_12 : decode cX6_shipOf 12 = .ok (.iload_n 2, 1) := by decide +kernel
theorem dX6_shipOf_13 : decode cX6_shipOf 13 = .ok (.tableswitch 166 0 5 #[39, 46, 53, 60, 75, 114], 39) := by decide +kernel
theorem dX6_shipOf_52 : decode cX6_shipOf 52 = .ok (.aload_n 0, 1) := by decide +kernel
theorem dX6_shipOf_53 : decode cX6_shipOf 53 = .ok (.getfield 7, 3) := by decide +kernel
theorem dX6_shipOf_56 : decode cX6_shipOf 56 = .ok (.iload_n 1, 1) := by decide +kernel
theorem dX6_shipOf_57 : decode cX6_shipOf 57 = .ok (.iaload, 1) := by decide +kernel
theorem dX6_shipOf_58 : decode cX6_shipOf 58 = .ok (.ireturn, 1) := by decide +kernel
theorem dX6_shipOf_59 : decode cX6_shipOf 59 = .ok (.aload_n 0, 1) := by decide +kernel
theorem dX6_shipOf_60 : decode cX6_shipOf 60 = .ok (.getfield 13, 3) := by decide +kernel
theorem dX6_shipOf_63 : decode cX6_shipOf 63 = .ok (.iload_n 1, 1) := by decide +kernel
theorem dX6_shipOf_64 : decode cX6_shipOf 64 = .ok (.iaload, 1) := by decide +kernel
theorem dX6_shipOf_65 : decode cX6_shipOf 65 = .ok (.ireturn, 1) := by decide +kernel
theorem dX6_shipOf_66 : decode cX6_shipOf 66 = .ok (.aload_n 0, 1) := by decide +kernel
theorem dX6_shipOf_67 : decode cX6_shipOf 67 = .ok (.getfield 16, 3) := by decide +kernel
theorem dX6_shipOf_70 : decode cX6_shipOf 70 = .ok (.iload_n 1, 1) := by decide +kernel
theorem dX6_shipOf_71 : decode cX6_shipOf 71 = .ok (.iaload, 1) := by decide +kernel
theorem dX6_shipOf_72 : decode cX6_shipOf 72 = .ok (.ireturn, 1) := by decide +kernel
theorem dX6_shipOf_73 : decode cX6_shipOf 73 = .ok (.aload_n 0, 1) := by decide +kernel
theorem dX6_shipOf_74 : decode cX6_shipOf 74 = .ok (.getfield 19, 3) := by decide +kernel
theorem dX6_shipOf_77 : decode cX6_shipOf 77 = .ok (.iload_n 1, 1) := by decide +kernel
theorem dX6_shipOf_78 : decode cX6_shipOf 78 = .ok (.baload, 1) := by decide +kernel
theorem dX6_shipOf_79 : decode cX6_shipOf 79 = .ok (.ifCond .eq 7, 3) := by decide +kernel
theorem dX6_shipOf_82 : decode cX6_shipOf 82 = .ok (.iconst 1, 1) := by decide +kernel
theorem dX6_shipOf_83 : decode cX6_shipOf 83 = .ok (.goto 4, 3) := by decide +kernel
theorem dX6_shipOf_86 : decode cX6_shipOf 86 = .ok (.iconst 0, 1) := by decide +kernel
theorem dX6_shipOf_87 : decode cX6_shipOf 87 = .ok (.ireturn, 1) := by decide +kernel
theorem dX6_shipOf_88 : decode cX6_shipOf 88 = .ok (.iconst 0, 1) := by decide +kernel
theorem dX6_shipOf_89 : decode cX6_shipOf 89 = .ok (.istore 4, 2) := by decide +kernel
theorem dX6_shipOf_91 : decode cX6_shipOf 91 = .ok (.iload 4, 2) := by decide +kernel
theorem dX6_shipOf_93 : decode cX6_shipOf 93 = .ok (.aload_n 0, 1) := by decide +kernel
theorem dX6_shipOf_94 : decode cX6_shipOf 94 = .ok (.getfield 92, 3) := by decide +kernel
theorem dX6_shipOf_97 : decode cX6_shipOf 97 = .ok (.if_icmp .ge 28, 3) := by decide +kernel
theorem dX6_shipOf_100 : decode cX6_shipOf 100 = .ok (.iload_n 3, 1) := by decide +kernel
theorem dX6_shipOf_101 : decode cX6_shipOf 101 = .ok (.aload_n 0, 1) := by decide +kernel
theorem dX6_shipOf_102 : decode cX6_shipOf 102 = .ok (.getfield 23, 3) := by decide +kernel
theorem dX6_shipOf_105 : decode cX6_shipOf 105 = .ok (.iload 4, 2) := by decide +kernel
theorem dX6_shipOf_107 : decode cX6_shipOf 107 = .ok (.iaload, 1) := by decide +kernel
theorem dX6_shipOf_108 : decode cX6_shipOf 108 = .ok (.iload_n 1, 1) := by decide +kernel
theorem dX6_shipOf_109 : decode cX6_shipOf 109 = .ok (.if_icmp .ne 7, 3) := by decide +kernel
theorem dX6_shipOf_112 : decode cX6_shipOf 112 = .ok (.iconst 1, 1) := by decide +kernel
theorem dX6_shipOf_113 : decode cX6_shipOf 113 = .ok (.goto 4, 3) := by decide +kernel
theorem dX6_shipOf_116 : decode cX6_shipOf 116 = .ok (.iconst 0, 1) := by decide +kernel
theorem dX6_shipOf_117 : decode cX6_shipOf 117 = .ok (.iadd, 1) := by decide +kernel
theorem dX6_shipOf_118 : decode cX6_shipOf 118 = .ok (.istore_n 3, 1) := by decide +kernel
theorem dX6_shipOf_119 : decode cX6_shipOf 119 = .ok (.iinc 4 1, 3) := by decide +kernel
theorem dX6_shipOf_122 : decode cX6_shipOf 122 = .ok (.goto (-31), 3) := by decide +kernel
theorem dX6_shipOf_125 : decode cX6_shipOf 125 = .ok (.iload_n 3, 1) := by decide +kernel
theorem dX6_shipOf_126 : decode cX6_shipOf 126 = .ok (.ireturn, 1) := by decide +kernel
theorem dX6_shipOf_127 : decode cX6_shipOf 127 = .ok (.aload_n 0, 1) := by decide +kernel
theorem dX6_shipOf_128 : decode cX6_shipOf 128 = .ok (.iload_n 1, 1) := by decide +kernel
theorem dX6_shipOf_129 : decode cX6_shipOf 129 = .ok (.invokevirtual 120, 3) := by decide +kernel
theorem dX6_shipOf_132 : decode cX6_shipOf 132 = .ok (.istore 4, 2) := by decide +kernel
theorem dX6_shipOf_134 : decode cX6_shipOf 134 = .ok (.iconst 0, 1) := by decide +kernel
theorem dX6_shipOf_135 : decode cX6_shipOf 135 = .ok (.istore 5, 2) := by decide +kernel
theorem dX6_shipOf_137 : decode cX6_shipOf 137 = .ok (.iload 5, 2) := by decide +kernel
theorem dX6_shipOf_139 : decode cX6_shipOf 139 = .ok (.aload_n 0, 1) := by decide +kernel
theorem dX6_shipOf_140 : decode cX6_shipOf 140 = .ok (.getfield 74, 3) := by decide +kernel
theorem dX6_shipOf_143 : decode cX6_shipOf 143 = .ok (.if_icmp .ge 34, 3) := by decide +kernel
theorem dX6_shipOf_146 : decode cX6_shipOf 146 = .ok (.iload 4, 2) := by decide +kernel
theorem dX6_shipOf_148 : decode cX6_shipOf 148 = .ok (.iconst (-1), 1) := by decide +kernel
theorem dX6_shipOf_149 : decode cX6_shipOf 149 = .ok (.if_icmp .eq 28, 3) := by decide +kernel
theorem dX6_shipOf_152 : decode cX6_shipOf 152 = .ok (.iload_n 3, 1) := by decide +kernel
theorem dX6_shipOf_153 : decode cX6_shipOf 153 = .ok (.aload_n 0, 1) := by decide +kernel
theorem dX6_shipOf_154 : decode cX6_shipOf 154 = .ok (.iload 5, 2) := by decide +kernel
theorem dX6_shipOf_156 : decode cX6_shipOf 156 = .ok (.iload 4, 2) := by decide +kernel
theorem dX6_shipOf_158 : decode cX6_shipOf 158 = .ok (.invokevirtual 130, 3) := by decide +kernel
theorem dX6_shipOf_161 : decode cX6_shipOf 161 = .ok (.ifCond .eq 7, 3) := by decide +kernel
theorem dX6_shipOf_164 : decode cX6_shipOf 164 = .ok (.iconst 1, 1) := by decide +kernel
theorem dX6_shipOf_165 : decode cX6_shipOf 165 = .ok (.goto 4, 3) := by decide +kernel
theorem dX6_shipOf_168 : decode cX6_shipOf 168 = .ok (.iconst 0, 1) := by decide +kernel
theorem dX6_shipOf_169 : decode cX6_shipOf 169 = .ok (.iadd, 1) := by decide +kernel
theorem dX6_shipOf_170 : decode cX6_shipOf 170 = .ok (.istore_n 3, 1) := by decide +kernel
theorem dX6_shipOf_171 : decode cX6_shipOf 171 = .ok (.iinc 5 1, 3) := by decide +kernel
theorem dX6_shipOf_174 : decode cX6_shipOf 174 = .ok (.goto (-37), 3) := by decide +kernel
theorem dX6_shipOf_177 : decode cX6_shipOf 177 = .ok (.iload_n 3, 1) := by decide +kernel
theorem dX6_shipOf_178 : decode cX6_shipOf 178 = .ok (.ireturn, 1) := by decide +kernel
theorem dX6_shipOf_179 : decode cX6_shipOf 179 = .ok (.iconst (-1), 1) := by decide +kernel
theorem dX6_shipOf_180 : decode cX6_shipOf 180 = .ok (.ireturn, 1) := by decide +kernel
set_option maxRecDepth 20000 in
theorem ggX6_sailingOf_X6_isSailing : GoodIn wsX6_sailingOf wsX6_isSailing := goodIn_r _ [12, 13, 19, 20, 21, 22, 23, 24, 25, 26, 27, 28, 29, 30, 31, 32, 33, 34, 35, 36, 37, 38, 39, 40, 41, 42, 43, 44, 45, 46, 47, 48, 49] (by decide +kernel) (by decide +kernel)
set_option maxRecDepth 20000 in
theorem gX6_sailingOf_X6_isSailing : GoodIn wsX6_sailingOf (wsV RX6 102 RX6 yX6_isSailing wsX6_isSailing) := goodIn_app (goodIn_of _ (by decide +kernel)) ggX6_sailingOf_X6_isSailing
set_option maxRecDepth 20000 in
theorem ggX6_sailingOf_X6_of : GoodIn wsX6_sailingOf wsX6_of := goodIn_r _ [17, 18, 19, 20, 21, 22, 23, 24, 25, 26, 27, 28, 29, 30, 31, 32, 33, 34, 35, 36, 37, 38, 39, 40, 41, 42, 43, 44, 45, 46, 47, 48, 49] (by decide +kernel) (by decide +kernel)
set_option maxRecDepth 20000 in
theorem gX6_sailingOf_X6_of : GoodIn wsX6_sailingOf (wsV RX6 115 RX6 yX6_of wsX6_of) := goodIn_app (goodIn_of _ (by decide +kernel)) ggX6_sailingOf_X6_of
theorem dX6_sailingOf_0 : decode cX6_sailingOf 0 = .ok (.aload_n 0, 1) := by decide +kernel
theorem dX6_sailingOf_1 : decode cX6_sailingOf 1 = .ok (.iload_n 1, 1) := by decide +kernel
theorem dX6_sailingOf_2 : decode cX6_sailingOf 2 = .ok (.invokevirtual 102, 3) := by decide +kernel
theorem dX6_sailingOf_5 : decode cX6_sailingOf 5 = .ok (.ifCond .ne 5, 3) := by decide +kernel
theorem dX6_sailingOf_8 : decode cX6_sailingOf 8 = .ok (.iconst (-1), 1) := by decide +kernel
theorem dX6_sailingOf_9 : decode cX6_sailingOf 9 = .ok (.ireturn, 1) := by decide +kernel
theorem dX6_sailingOf_10 : decode cX6_sailingOf 10 = .ok (.iload_n 2, 1) := by decide +kernel
theorem dX6_sailingOf_11 : decode cX6_sailingOf 11 = .ok (.tableswitch 124 0 6 #[41, 48, 55, 62, 69, 76, 83], 41) := by decide +kernel
theorem dX6_sailingOf_52 : decode cX6_sailingOf 52 = .ok (.aload_n 0, 1) := by decide +kernel
theorem dX6_sailingOf_53 : decode cX6_sailingOf 53 = .ok (.getfield 29, 3) := by decide +kernel
theorem dX6_sailingOf_56 : decode cX6_sailingOf 56 = .ok (.iload_n 1, 1) := by decide +kernel
theorem dX6_sailingOf_57 : decode cX6_sailingOf 57 = .ok (.iaload, 1) := by decide +kernel
theorem dX6_sailingOf_58 : decode cX6_sailingOf 58 = .ok (.ireturn, 1) := by decide +kernel
theorem dX6_sailingOf_59 : decode cX6_sailingOf 59 = .ok (.aload_n 0, 1) := by decide +kernel
theorem dX6_sailingOf_60 : decode cX6_sailingOf 60 = .ok (.getfield 32, 3) := by decide +kernel
theorem dX6_sailingOf_63 : decode cX6_sailingOf 63 = .ok (.iload_n 1, 1) := by decide +kernel
theorem dX6_sailingOf_64 : decode cX6_sailingOf 64 = .ok (.iaload, 1) := by decide +kernel
theorem dX6_sailingOf_65 : decode cX6_sailingOf 65 = .ok (.ireturn, 1) := by decide +kernel
theorem dX6_sailingOf_66 : decode cX6_sailingOf 66 = .ok (.aload_n 0, 1) := by decide +kernel
theorem dX6_sailingOf_67 : decode cX6_sailingOf 67 = .ok (.getfield 35, 3) := by decide +kernel
theorem dX6_sailingOf_70 : decode cX6_sailingOf 70 = .ok (.iload_n 1, 1) := by decide +kernel
theorem dX6_sailingOf_71 : decode cX6_sailingOf 71 = .ok (.iaload, 1) := by decide +kernel
theorem dX6_sailingOf_72 : decode cX6_sailingOf 72 = .ok (.ireturn, 1) := by decide +kernel
theorem dX6_sailingOf_73 : decode cX6_sailingOf 73 = .ok (.aload_n 0, 1) := by decide +kernel
theorem dX6_sailingOf_74 : decode cX6_sailingOf 74 = .ok (.getfield 38, 3) := by decide +kernel
theorem dX6_sailingOf_77 : decode cX6_sailingOf 77 = .ok (.iload_n 1, 1) := by decide +kernel
theorem dX6_sailingOf_78 : decode cX6_sailingOf 78 = .ok (.iaload, 1) := by decide +kernel
theorem dX6_sailingOf_79 : decode cX6_sailingOf 79 = .ok (.ireturn, 1) := by decide +kernel
theorem dX6_sailingOf_80 : decode cX6_sailingOf 80 = .ok (.aload_n 0, 1) := by decide +kernel
theorem dX6_sailingOf_81 : decode cX6_sailingOf 81 = .ok (.getfield 41, 3) := by decide +kernel
theorem dX6_sailingOf_84 : decode cX6_sailingOf 84 = .ok (.iload_n 1, 1) := by decide +kernel
theorem dX6_sailingOf_85 : decode cX6_sailingOf 85 = .ok (.iaload, 1) := by decide +kernel
theorem dX6_sailingOf_86 : decode cX6_sailingOf 86 = .ok (.ireturn, 1) := by decide +kernel
theorem dX6_sailingOf_87 : decode cX6_sailingOf 87 = .ok (.aload_n 0, 1) := by decide +kernel
theorem dX6_sailingOf_88 : decode cX6_sailingOf 88 = .ok (.getfield 44, 3) := by decide +kernel
theorem dX6_sailingOf_91 : decode cX6_sailingOf 91 = .ok (.iload_n 1, 1) := by decide +kernel
theorem dX6_sailingOf_92 : decode cX6_sailingOf 92 = .ok (.iaload, 1) := by decide +kernel
theorem dX6_sailingOf_93 : decode cX6_sailingOf 93 = .ok (.ireturn, 1) := by decide +kernel
theorem dX6_sailingOf_94 : decode cX6_sailingOf 94 = .ok (.iconst 0, 1) := by decide +kernel
theorem dX6_sailingOf_95 : decode cX6_sailingOf 95 = .ok (.istore_n 3, 1) := by decide +kernel
theorem dX6_sailingOf_96 : decode cX6_sailingOf 96 = .ok (.iconst 0, 1) := by decide +kernel
theorem dX6_sailingOf_97 : decode cX6_sailingOf 97 = .ok (.istore 4, 2) := by decide +kernel
theorem dX6_sailingOf_99 : decode cX6_sailingOf 99 = .ok (.iload 4, 2) := by decide +kernel
theorem dX6_sailingOf_101 : decode cX6_sailingOf 101 = .ok (.aload_n 0, 1) := by decide +kernel
theorem dX6_sailingOf_102 : decode cX6_sailingOf 102 = .ok (.getfield 74, 3) := by decide +kernel
theorem dX6_sailingOf_105 : decode cX6_sailingOf 105 = .ok (.if_icmp .ge 28, 3) := by decide +kernel
theorem dX6_sailingOf_108 : decode cX6_sailingOf 108 = .ok (.iload_n 3, 1) := by decide +kernel
theorem dX6_sailingOf_109 : decode cX6_sailingOf 109 = .ok (.aload_n 0, 1) := by decide +kernel
theorem dX6_sailingOf_110 : decode cX6_sailingOf 110 = .ok (.iload 4, 2) := by decide +kernel
theorem dX6_sailingOf_112 : decode cX6_sailingOf 112 = .ok (.iconst 0, 1) := by decide +kernel
theorem dX6_sailingOf_113 : decode cX6_sailingOf 113 = .ok (.invokevirtual 115, 3) := by decide +kernel
theorem dX6_sailingOf_116 : decode cX6_sailingOf 116 = .ok (.iload_n 1, 1) := by decide +kernel
theorem dX6_sailingOf_117 : decode cX6_sailingOf 117 = .ok (.if_icmp .ne 7, 3) := by decide +kernel
theorem dX6_sailingOf_120 : decode cX6_sailingOf 120 = .ok (.iconst 1, 1) := by decide +kernel
theorem dX6_sailingOf_121 : decode cX6_sailingOf 121 = .ok (.goto 4, 3) := by decide +kernel
theorem dX6_sailingOf_124 : decode cX6_sailingOf 124 = .ok (.iconst 0, 1) := by decide +kernel
theorem dX6_sailingOf_125 : decode cX6_sailingOf 125 = .ok (.iadd, 1) := by decide +kernel
theorem dX6_sailingOf_126 : decode cX6_sailingOf 126 = .ok (.istore_n 3, 1) := by decide +kernel
theorem dX6_sailingOf_127 : decode cX6_sailingOf 127 = .ok (.iinc 4 1, 3) := by decide +kernel
theorem dX6_sailingOf_130 : decode cX6_sailingOf 130 = .ok (.goto (-31), 3) := by decide +kernel
theorem dX6_sailingOf_133 : decode cX6_sailingOf 133 = .ok (.iload_n 3, 1) := by decide +kernel
theorem dX6_sailingOf_134 : decode cX6_sailingOf 134 = .ok (.ireturn, 1) := by decide +kernel
theorem dX6_sailingOf_135 : decode cX6_sailingOf 135 = .ok (.iconst (-1), 1) := by decide +kernel
theorem dX6_sailingOf_136 : decode cX6_sailingOf 136 = .ok (.ireturn, 1) := by decide +kernel
set_option maxRecDepth 20000 in
theorem ggX6_ticketOf_X6_isTicket : GoodIn wsX6_ticketOf wsX6_isTicket := goodIn_r _ [5, 6, 15, 16, 17, 18, 19, 20, 21, 22, 23, 24, 25, 26, 27, 28, 29, 30, 31, 32, 33, 34, 35, 36, 37, 38, 39, 40, 41, 42, 43, 44, 45] (by decide +kernel) (by decide +kernel)
set_option maxRecDepth 20000 in
theorem gX6_ticketOf_X6_isTicket : GoodIn wsX6_ticketOf (wsV RX6 112 RX6 yX6_isTicket wsX6_isTicket) := goodIn_app (goodIn_of _ (by decide +kernel)) ggX6_ticketOf_X6_isTicket
set_option maxRecDepth 20000 in
theorem ggX6_ticketOf_X6_isIn : GoodIn wsX6_ticketOf wsX6_isIn := goodIn_r _ [9] (by decide +kernel) (by decide +kernel)
set_option maxRecDepth 20000 in
theorem gX6_ticketOf_X6_isIn : GoodIn wsX6_ticketOf (va_wsS RX6 84 yX6_isIn wsX6_isIn) := goodIn_app (goodIn_of _ (by decide +kernel)) ggX6_ticketOf_X6_isIn
set_option maxRecDepth 20000 in
theorem ggX6_ticketOf_X6_of : GoodIn wsX6_ticketOf wsX6_of := goodIn_r _ [13, 14, 15, 16, 17, 18, 19, 20, 21, 22, 23, 24, 25, 26, 27, 28, 29, 30, 31, 32, 33, 34, 35, 36, 37, 38, 39, 40, 41, 42, 43, 44, 45] (by decide +kernel) (by decide +kernel)
set_option maxRecDepth 20000 in
theorem gX6_ticketOf_X6_of : GoodIn wsX6_ticketOf (wsV RX6 115 RX6 yX6_of wsX6_of) := goodIn_app (goodIn_of _ (by decide +kernel)) ggX6_ticketOf_X6_of
theorem dX6_ticketOf_0 : decode cX6_ticketOf 0 = .ok (.aload_n 0, 1) := by decide +kernel
theorem dX6_ticketOf_1 : decode cX6_ticketOf 1 = .ok (.iload_n 1, 1) := by decide +kernel
theorem dX6_ticketOf_2 : decode cX6_ticketOf 2 = .ok (.invokevirtual 112, 3) := by decide +kernel
theorem dX6_ticketOf_5 : decode cX6_ticketOf 5 = .ok (.ifCond .eq 22, 3) := by decide +kernel
theorem dX6_ticketOf_8 : decode cX6_ticketOf 8 = .ok (.iload_n 2, 1) := by decide +kernel
theorem dX6_ticketOf_9 : decode cX6_ticketOf 9 = .ok (.iconst 0, 1) := by decide +kernel
theorem dX6_ticketOf_10 : decode cX6_ticketOf 10 = .ok (.bipush 12, 2) := by decide +kernel
theorem dX6_ticketOf_12 : decode cX6_ticketOf 12 = .ok (.invokestatic 84, 3) := by decide +kernel
theorem dX6_ticketOf_15 : decode cX6_ticketOf 15 = .ok (.ifCond .eq 12, 3) := by decide +kernel
theorem dX6_ticketOf_18 : decode cX6_ticketOf 18 = .ok (.aload_n 0, 1) := by decide +kernel
theorem dX6_ticketOf_19 : decode cX6_ticketOf 19 = .ok (.iload_n 1, 1) := by decide +kernel
theorem dX6_ticketOf_20 : decode cX6_ticketOf 20 = .ok (.iload_n 2, 1) := by decide +kernel
theorem dX6_ticketOf_21 : decode cX6_ticketOf 21 = .ok (.invokevirtual 115, 3) := by decide +kernel
theorem dX6_ticketOf_24 : decode cX6_ticketOf 24 = .ok (.goto 4, 3) := by decide +kernel
theorem dX6_ticketOf_27 : decode cX6_ticketOf 27 = .ok (.iconst (-1), 1) := by decide +kernel
theorem dX6_ticketOf_28 : decode cX6_ticketOf 28 = .ok (.ireturn, 1) := by decide +kernel
set_option maxRecDepth 20000 in
theorem ggX6_isLane_X6_isShip : GoodIn wsX6_isLane wsX6_isShip := goodIn_r _ [7, 8, 12, 13, 14, 15, 16, 17, 18, 19, 20, 21, 22, 23, 24, 25, 26, 27, 28, 29, 30, 31, 32, 33, 34, 35, 36, 37, 38, 39, 40, 41, 42] (by decide +kernel) (by decide +kernel)
set_option maxRecDepth 20000 in
theorem gX6_isLane_X6_isShip : GoodIn wsX6_isLane (wsV RX6 88 RX6 yX6_isShip wsX6_isShip) := goodIn_app (goodIn_of _ (by decide +kernel)) ggX6_isLane_X6_isShip
set_option maxRecDepth 20000 in
theorem ggX6_isLane_X6_isIn : GoodIn wsX6_isLane wsX6_isIn := goodIn_r _ [11] (by decide +kernel) (by decide +kernel)
set_option maxRecDepth 20000 in
theorem gX6_isLane_X6_isIn : GoodIn wsX6_isLane (va_wsS RX6 84 yX6_isIn wsX6_isIn) := goodIn_app (goodIn_of _ (by decide +kernel)) ggX6_isLane_X6_isIn
theorem dX6_isLane_0 : decode cX6_isLane 0 = .ok (.aload_n 0, 1) := by decide +kernel
theorem dX6_isLane_1 : decode cX6_isLane 1 = .ok (.iload_n 1, 1) := by decide +kernel
theorem dX6_isLane_2 : decode cX6_isLane 2 = .ok (.invokevirtual 88, 3) := by decide +kernel
theorem dX6_isLane_5 : decode cX6_isLane 5 = .ok (.ifCond .eq 39, 3) := by decide +kernel
theorem dX6_isLane_8 : decode cX6_isLane 8 = .ok (.iload_n 2, 1) := by decide +kernel
theorem dX6_isLane_9 : decode cX6_isLane 9 = .ok (.iconst 0, 1) := by decide +kernel
theorem dX6_isLane_10 : decode cX6_isLane 10 = .ok (.aload_n 0, 1) := by decide +kernel
theorem dX6_isLane_11 : decode cX6_isLane 11 = .ok (.getfield 7, 3) := by decide +kernel
theorem dX6_isLane_14 : decode cX6_isLane 14 = .ok (.iload_n 1, 1) := by decide +kernel
theorem dX6_isLane_15 : decode cX6_isLane 15 = .ok (.iaload, 1) := by decide +kernel
theorem dX6_isLane_16 : decode cX6_isLane 16 = .ok (.iconst 1, 1) := by decide +kernel
theorem dX6_isLane_17 : decode cX6_isLane 17 = .ok (.isub, 1) := by decide +kernel
theorem dX6_isLane_18 : decode cX6_isLane 18 = .ok (.invokestatic 84, 3) := by decide +kernel
theorem dX6_isLane_21 : decode cX6_isLane 21 = .ok (.ifCond .eq 23, 3) := by decide +kernel
theorem dX6_isLane_24 : decode cX6_isLane 24 = .ok (.iload_n 3, 1) := by decide +kernel
theorem dX6_isLane_25 : decode cX6_isLane 25 = .ok (.iconst 0, 1) := by decide +kernel
theorem dX6_isLane_26 : decode cX6_isLane 26 = .ok (.aload_n 0, 1) := by decide +kernel
theorem dX6_isLane_27 : decode cX6_isLane 27 = .ok (.getfield 13, 3) := by decide +kernel
theorem dX6_isLane_30 : decode cX6_isLane 30 = .ok (.iload_n 1, 1) := by decide +kernel
theorem dX6_isLane_31 : decode cX6_isLane 31 = .ok (.iaload, 1) := by decide +kernel
theorem dX6_isLane_32 : decode cX6_isLane 32 = .ok (.iconst 1, 1) := by decide +kernel
theorem dX6_isLane_33 : decode cX6_isLane 33 = .ok (.isub, 1) := by decide +kernel
theorem dX6_isLane_34 : decode cX6_isLane 34 = .ok (.invokestatic 84, 3) := by decide +kernel
theorem dX6_isLane_37 : decode cX6_isLane 37 = .ok (.ifCond .eq 7, 3) := by decide +kernel
theorem dX6_isLane_40 : decode cX6_isLane 40 = .ok (.iconst 1, 1) := by decide +kernel
theorem dX6_isLane_41 : decode cX6_isLane 41 = .ok (.goto 4, 3) := by decide +kernel
theorem dX6_isLane_44 : decode cX6_isLane 44 = .ok (.iconst 0, 1) := by decide +kernel
theorem dX6_isLane_45 : decode cX6_isLane 45 = .ok (.ireturn, 1) := by decide +kernel
set_option maxRecDepth 20000 in
theorem ggX6_at_X6_isLane : GoodIn wsX6_at wsX6_isLane := goodIn_r _ [6, 7, 8, 9, 10, 11, 5, 12, 13, 14, 15, 16, 38, 39, 40, 41, 42, 43, 44, 45, 46, 47, 48, 49, 50, 51, 52, 53, 54, 55, 56, 57, 58, 59, 60, 61, 62, 63, 64, 65, 66, 67, 68] (by decide +kernel) (by decide +kernel)
set_option maxRecDepth 20000 in
theorem gX6_at_X6_isLane : GoodIn wsX6_at (wsV RX6 197 RX6 yX6_isLane wsX6_isLane) := goodIn_app (goodIn_of _ (by decide +kernel)) ggX6_at_X6_isLane
set_option maxRecDepth 20000 in
theorem ggX6_at_X6_isIn : GoodIn wsX6_at wsX6_isIn := goodIn_r _ [16] (by decide +kernel) (by decide +kernel)
set_option maxRecDepth 20000 in
theorem gX6_at_X6_isIn : GoodIn wsX6_at (va_wsS RX6 84 yX6_isIn wsX6_isIn) := goodIn_app (goodIn_of _ (by decide +kernel)) ggX6_at_X6_isIn
set_option maxRecDepth 20000 in
theorem ggX6_at_X6_openOf : GoodIn wsX6_at wsX6_openOf := goodIn_r _ [20, 21, 22, 23, 38, 39, 40, 41, 42, 43, 44, 45, 46, 47, 48, 49, 50, 51, 52, 53, 54, 55, 56, 57, 58, 59, 60, 61, 62, 63, 64, 65, 66, 67, 68] (by decide +kernel) (by decide +kernel)
set_option maxRecDepth 20000 in
theorem gX6_at_X6_openOf : GoodIn wsX6_at (wsV RX6 120 RX6 yX6_openOf wsX6_openOf) := goodIn_app (goodIn_of _ (by decide +kernel)) ggX6_at_X6_openOf
set_option maxRecDepth 20000 in
theorem ggX6_at_X6_covers : GoodIn wsX6_at wsX6_covers := goodIn_r _ [27, 28, 29, 30, 31, 5, 32, 33, 34, 35, 36, 37, 38, 39, 40, 41, 42, 43, 44, 45, 46, 47, 48, 49, 50, 51, 52, 53, 54, 55, 56, 57, 58, 59, 60, 61, 62, 63, 64, 65, 66, 67, 68] (by decide +kernel) (by decide +kernel)
set_option maxRecDepth 20000 in
theorem gX6_at_X6_covers : GoodIn wsX6_at (wsV RX6 200 RX6 yX6_covers wsX6_covers) := goodIn_app (goodIn_of _ (by decide +kernel)) ggX6_at_X6_covers
theorem dX6_at_0 : decode cX6_at 0 = .ok (.aload_n 0, 1) := by decide +kernel
theorem dX6_at_1 : decode cX6_at 1 = .ok (.iload_n 1, 1) := by decide +kernel
theorem dX6_at_2 : decode cX6_at 2 = .ok (.iload_n 2, 1) := by decide +kernel
theorem dX6_at_3 : decode cX6_at 3 = .ok (.iload_n 3, 1) := by decide +kernel
theorem dX6_at_4 : decode cX6_at 4 = .ok (.invokevirtual 197, 3) := by decide +kernel
theorem dX6_at_7 : decode cX6_at 7 = .ok (.ifCond .eq 29, 3) := by decide +kernel
theorem dX6_at_10 : decode cX6_at 10 = .ok (.iload 4, 2) := by decide +kernel
theorem dX6_at_12 : decode cX6_at 12 = .ok (.iconst 0, 1) := by decide +kernel
theorem dX6_at_13 : decode cX6_at 13 = .ok (.aload_n 0, 1) := by decide +kernel
theorem dX6_at_14 : decode cX6_at 14 = .ok (.getfield 16, 3) := by decide +kernel
theorem dX6_at_17 : decode cX6_at 17 = .ok (.iload_n 1, 1) := by decide +kernel
theorem dX6_at_18 : decode cX6_at 18 = .ok (.iaload, 1) := by decide +kernel
theorem dX6_at_19 : decode cX6_at 19 = .ok (.iconst 1, 1) := by decide +kernel
theorem dX6_at_20 : decode cX6_at 20 = .ok (.isub, 1) := by decide +kernel
theorem dX6_at_21 : decode cX6_at 21 = .ok (.invokestatic 84, 3) := by decide +kernel
theorem dX6_at_24 : decode cX6_at 24 = .ok (.ifCond .eq 12, 3) := by decide +kernel
theorem dX6_at_27 : decode cX6_at 27 = .ok (.aload_n 0, 1) := by decide +kernel
theorem dX6_at_28 : decode cX6_at 28 = .ok (.iload_n 1, 1) := by decide +kernel
theorem dX6_at_29 : decode cX6_at 29 = .ok (.invokevirtual 120, 3) := by decide +kernel
theorem dX6_at_32 : decode cX6_at 32 = .ok (.iconst (-1), 1) := by decide +kernel
theorem dX6_at_33 : decode cX6_at 33 = .ok (.if_icmp .ne 5, 3) := by decide +kernel
theorem dX6_at_36 : decode cX6_at 36 = .ok (.iconst (-1), 1) := by decide +kernel
theorem dX6_at_37 : decode cX6_at 37 = .ok (.ireturn, 1) := by decide +kernel
theorem dX6_at_38 : decode cX6_at 38 = .ok (.aload_n 0, 1) := by decide +kernel
theorem dX6_at_39 : decode cX6_at 39 = .ok (.aload_n 0, 1) := by decide +kernel
theorem dX6_at_40 : decode cX6_at 40 = .ok (.iload_n 1, 1) := by decide +kernel
theorem dX6_at_41 : decode cX6_at 41 = .ok (.invokevirtual 120, 3) := by decide +kernel
theorem dX6_at_44 : decode cX6_at 44 = .ok (.iload_n 2, 1) := by decide +kernel
theorem dX6_at_45 : decode cX6_at 45 = .ok (.iload_n 3, 1) := by decide +kernel
theorem dX6_at_46 : decode cX6_at 46 = .ok (.iload 4, 2) := by decide +kernel
theorem dX6_at_48 : decode cX6_at 48 = .ok (.invokevirtual 200, 3) := by decide +kernel
theorem dX6_at_51 : decode cX6_at 51 = .ok (.ireturn, 1) := by decide +kernel
set_option maxRecDepth 20000 in
theorem ggX6_lane_X6_isLane : GoodIn wsX6_lane wsX6_isLane := goodIn_r _ [7, 8, 9, 10, 11, 12, 6, 13, 14, 15, 16, 17, 51, 52, 53, 54, 55, 56, 57, 58, 59, 60, 61, 62, 63, 64, 65, 66, 67, 68, 69, 70, 71, 72, 73, 74, 75, 76, 77, 78, 79, 80, 81] (by decide +kernel) (by decide +kernel)
set_option maxRecDepth 20000 in
theorem gX6_lane_X6_isLane : GoodIn wsX6_lane (wsV RX6 197 RX6 yX6_isLane wsX6_isLane) := goodIn_app (goodIn_of _ (by decide +kernel)) ggX6_lane_X6_isLane
set_option maxRecDepth 20000 in
theorem ggX6_lane_X6_isIn : GoodIn wsX6_lane wsX6_isIn := goodIn_r _ [17] (by decide +kernel) (by decide +kernel)
set_option maxRecDepth 20000 in
theorem gX6_lane_X6_isIn : GoodIn wsX6_lane (va_wsS RX6 84 yX6_isIn wsX6_isIn) := goodIn_app (goodIn_of _ (by decide +kernel)) ggX6_lane_X6_isIn
set_option maxRecDepth 20000 in
theorem ggX6_lane_X6_openOf : GoodIn wsX6_lane wsX6_openOf := goodIn_r _ [21, 22, 23, 24, 51, 52, 53, 54, 55, 56, 57, 58, 59, 60, 61, 62, 63, 64, 65, 66, 67, 68, 69, 70, 71, 72, 73, 74, 75, 76, 77, 78, 79, 80, 81] (by decide +kernel) (by decide +kernel)
set_option maxRecDepth 20000 in
theorem gX6_lane_X6_openOf : GoodIn wsX6_lane (wsV RX6 120 RX6 yX6_openOf wsX6_openOf) := goodIn_app (goodIn_of _ (by decide +kernel)) ggX6_lane_X6_openOf
set_option maxRecDepth 20000 in
theorem ggX6_lane_X6_mayStand : GoodIn wsX6_lane wsX6_mayStand := goodIn_r _ [28, 29, 30, 31, 32, 33, 6, 34, 35, 36, 37, 38, 39, 51, 52, 53, 54, 55, 56, 57, 58, 59, 60, 61, 62, 63, 64, 65, 66, 67, 68, 69, 70, 71, 72, 73, 74, 75, 76, 77, 78, 79, 80, 81] (by decide +kernel) (by decide +kernel)
set_option maxRecDepth 20000 in
theorem gX6_lane_X6_mayStand : GoodIn wsX6_lane (wsV RX6 146 RX6 yX6_mayStand wsX6_mayStand) := goodIn_app (goodIn_of _ (by decide +kernel)) ggX6_lane_X6_mayStand
set_option maxRecDepth 20000 in
theorem ggX6_lane_X6_measure : GoodIn wsX6_lane wsX6_measure := goodIn_r _ [43, 44, 45, 30, 1, 2, 46, 47, 48, 49, 50, 31, 32, 33, 6, 34, 35, 36, 37, 38, 39, 51, 52, 53, 54, 55, 56, 57, 58, 59, 60, 61, 62, 63, 64, 65, 66, 67, 68, 69, 70, 71, 72, 73, 74, 75, 76, 77, 78, 79, 80, 81] (by decide +kernel) (by decide +kernel)
set_option maxRecDepth 20000 in
theorem gX6_lane_X6_measure : GoodIn wsX6_lane (wsV RX6 150 RX6 yX6_measure wsX6_measure) := goodIn_app (goodIn_of _ (by decide +kernel)) ggX6_lane_X6_measure
theorem dX6_lane_0 : decode cX6_lane 0 = .ok (.aload_n 0, 1) := by decide +kernel
theorem dX6_lane_1 : decode cX6_lane 1 = .ok (.iload_n 1, 1) := by decide +kernel
theorem dX6_lane_2 : decode cX6_lane 2 = .ok (.iload_n 2, 1) := by decide +kernel
theorem dX6_lane_3 : decode cX6_lane 3 = .ok (.iload_n 3, 1) := by decide +kernel
theorem dX6_lane_4 : decode cX6_lane 4 = .ok (.invokevirtual 197, 3) := by decide +kernel
theorem dX6_lane_7 : decode cX6_lane 7 = .ok (.ifCond .eq 13, 3) := by decide +kernel
theorem dX6_lane_10 : decode cX6_lane 10 = .ok (.iload 4, 2) := by decide +kernel
theorem dX6_lane_12 : decode cX6_lane 12 = .ok (.iconst 0, 1) := by decide +kernel
theorem dX6_lane_13 : decode cX6_lane 13 = .ok (.iconst 4, 1) := by decide +kernel
theorem dX6_lane_14 : decode cX6_lane 14 = .ok (.invokestatic 84, 3) := by decide +kernel
theorem dX6_lane_17 : decode cX6_lane 17 = .ok (.ifCond .ne 5, 3) := by decide +kernel
theorem dX6_lane_20 : decode cX6_lane 20 = .ok (.iconst (-1), 1) := by decide +kernel
theorem dX6_lane_21 : decode cX6_lane 21 = .ok (.ireturn, 1) := by decide +kernel
theorem dX6_lane_22 : decode cX6_lane 22 = .ok (.aload_n 0, 1) := by decide +kernel
theorem dX6_lane_23 : decode cX6_lane 23 = .ok (.iload_n 1, 1) := by decide +kernel
theorem dX6_lane_24 : decode cX6_lane 24 = .ok (.invokevirtual 120, 3) := by decide +kernel
theorem dX6_lane_27 : decode cX6_lane 27 = .ok (.istore 5, 2) := by decide +kernel
theorem dX6_lane_29 : decode cX6_lane 29 = .ok (.iload 4, 2) := by decide +kernel
theorem dX6_lane_31 : decode cX6_lane 31 = .ok (.iconst 1, 1) := by decide +kernel
theorem dX6_lane_32 : decode cX6_lane 32 = .ok (.if_icmp .le 25, 3) := by decide +kernel
theorem dX6_lane_35 : decode cX6_lane 35 = .ok (.aload_n 0, 1) := by decide +kernel
theorem dX6_lane_36 : decode cX6_lane 36 = .ok (.iload 5, 2) := by decide +kernel
theorem dX6_lane_38 : decode cX6_lane 38 = .ok (.iload_n 1, 1) := by decide +kernel
theorem dX6_lane_39 : decode cX6_lane 39 = .ok (.iload_n 2, 1) := by decide +kernel
theorem dX6_lane_40 : decode cX6_lane 40 = .ok (.iload_n 3, 1) := by decide +kernel
theorem dX6_lane_41 : decode cX6_lane 41 = .ok (.iload 4, 2) := by decide +kernel
theorem dX6_lane_43 : decode cX6_lane 43 = .ok (.iconst 2, 1) := by decide +kernel
theorem dX6_lane_44 : decode cX6_lane 44 = .ok (.isub, 1) := by decide +kernel
theorem dX6_lane_45 : decode cX6_lane 45 = .ok (.invokevirtual 146, 3) := by decide +kernel
theorem dX6_lane_48 : decode cX6_lane 48 = .ok (.ifCond .eq 7, 3) := by decide +kernel
theorem dX6_lane_51 : decode cX6_lane 51 = .ok (.iconst 1, 1) := by decide +kernel
theorem dX6_lane_52 : decode cX6_lane 52 = .ok (.goto 4, 3) := by decide +kernel
theorem dX6_lane_55 : decode cX6_lane 55 = .ok (.iconst 0, 1) := by decide +kernel
theorem dX6_lane_56 : decode cX6_lane 56 = .ok (.ireturn, 1) := by decide +kernel
theorem dX6_lane_57 : decode cX6_lane 57 = .ok (.aload_n 0, 1) := by decide +kernel
theorem dX6_lane_58 : decode cX6_lane 58 = .ok (.iload 5, 2) := by decide +kernel
theorem dX6_lane_60 : decode cX6_lane 60 = .ok (.iload_n 1, 1) := by decide +kernel
theorem dX6_lane_61 : decode cX6_lane 61 = .ok (.iload_n 2, 1) := by decide +kernel
theorem dX6_lane_62 : decode cX6_lane 62 = .ok (.iload_n 3, 1) := by decide +kernel
theorem dX6_lane_63 : decode cX6_lane 63 = .ok (.iconst 1, 1) := by decide +kernel
theorem dX6_lane_64 : decode cX6_lane 64 = .ok (.invokevirtual 150, 3) := by decide +kernel
theorem dX6_lane_67 : decode cX6_lane 67 = .ok (.iload 4, 2) := by decide +kernel
theorem dX6_lane_69 : decode cX6_lane 69 = .ok (.ifCond .ne 10, 3) := by decide +kernel
theorem dX6_lane_72 : decode cX6_lane 72 = .ok (.aload_n 0, 1) := by decide +kernel
theorem dX6_lane_73 : decode cX6_lane 73 = .ok (.getfield 134, 3) := by decide +kernel
theorem dX6_lane_76 : decode cX6_lane 76 = .ok (.goto 7, 3) := by decide +kernel
theorem dX6_lane_79 : decode cX6_lane 79 = .ok (.aload_n 0, 1) := by decide +kernel
theorem dX6_lane_80 : decode cX6_lane 80 = .ok (.getfield 137, 3) := by decide +kernel
theorem dX6_lane_83 : decode cX6_lane 83 = .ok (.ireturn, 1) := by decide +kernel
theorem dX6_log_0 : decode cX6_log 0 = .ok (.iload_n 1, 1) := by decide +kernel
theorem dX6_log_1 : decode cX6_log 1 = .ok (.ifCond .lt 18, 3) := by decide +kernel
theorem dX6_log_4 : decode cX6_log 4 = .ok (.iload_n 1, 1) := by decide +kernel
theorem dX6_log_5 : decode cX6_log 5 = .ok (.aload_n 0, 1) := by decide +kernel
theorem dX6_log_6 : decode cX6_log 6 = .ok (.getfield 172, 3) := by decide +kernel
theorem dX6_log_9 : decode cX6_log 9 = .ok (.if_icmp .ge 10, 3) := by decide +kernel
theorem dX6_log_12 : decode cX6_log 12 = .ok (.iload_n 1, 1) := by decide +kernel
theorem dX6_log_13 : decode cX6_log 13 = .ok (.sipush 3000, 3) := by decide +kernel
theorem dX6_log_16 : decode cX6_log 16 = .ok (.if_icmp .lt 5, 3) := by decide +kernel
theorem dX6_log_19 : decode cX6_log 19 = .ok (.iconst (-1), 1) := by decide +kernel
theorem dX6_log_20 : decode cX6_log 20 = .ok (.ireturn, 1) := by decide +kernel
theorem dX6_log_21 : decode cX6_log 21 = .ok (.iload_n 2, 1) := by decide +kernel
theorem dX6_log_22 : decode cX6_log 22 = .ok (.ifCond .ne 12, 3) := by decide +kernel
theorem dX6_log_25 : decode cX6_log 25 = .ok (.aload_n 0, 1) := by decide +kernel
theorem dX6_log_26 : decode cX6_log 26 = .ok (.getfield 62, 3) := by decide +kernel
theorem dX6_log_29 : decode cX6_log 29 = .ok (.iload_n 1, 1) := by decide +kernel
theorem dX6_log_30 : decode cX6_log 30 = .ok (.iaload, 1) := by decide +kernel
theorem dX6_log_31 : decode cX6_log 31 = .ok (.goto 32, 3) := by decide +kernel
theorem dX6_log_34 : decode cX6_log 34 = .ok (.iload_n 2, 1) := by decide +kernel
theorem dX6_log_35 : decode cX6_log 35 = .ok (.iconst 1, 1) := by decide +kernel
theorem dX6_log_36 : decode cX6_log 36 = .ok (.if_icmp .ne 12, 3) := by decide +kernel
theorem dX6_log_39 : decode cX6_log 39 = .ok (.aload_n 0, 1) := by decide +kernel
theorem dX6_log_40 : decode cX6_log 40 = .ok (.getfield 65, 3) := by decide +kernel
theorem dX6_log_43 : decode cX6_log 43 = .ok (.iload_n 1, 1) := by decide +kernel
theorem dX6_log_44 : decode cX6_log 44 = .ok (.iaload, 1) := by decide +kernel
theorem dX6_log_45 : decode cX6_log 45 = .ok (.goto 18, 3) := by decide +kernel
theorem dX6_log_48 : decode cX6_log 48 = .ok (.iload_n 2, 1) := by decide +kernel
theorem dX6_log_49 : decode cX6_log 49 = .ok (.iconst 2, 1) := by decide +kernel
theorem dX6_log_50 : decode cX6_log 50 = .ok (.if_icmp .ne 12, 3) := by decide +kernel
theorem dX6_log_53 : decode cX6_log 53 = .ok (.aload_n 0, 1) := by decide +kernel
theorem dX6_log_54 : decode cX6_log 54 = .ok (.getfield 68, 3) := by decide +kernel
theorem dX6_log_57 : decode cX6_log 57 = .ok (.iload_n 1, 1) := by decide +kernel
theorem dX6_log_58 : decode cX6_log 58 = .ok (.iaload, 1) := by decide +kernel
theorem dX6_log_59 : decode cX6_log 59 = .ok (.goto 4, 3) := by decide +kernel
theorem dX6_log_62 : decode cX6_log 62 = .ok (.iconst (-1), 1) := by decide +kernel
theorem dX6_log_63 : decode cX6_log 63 = .ok (.ireturn, 1) := by decide +kernel
theorem dX6_count_0 : decode cX6_count 0 = .ok (.iload_n 1, 1) := by decide +kernel
theorem dX6_count_1 : decode cX6_count 1 = .ok (.tableswitch 60 0 4 #[35, 40, 45, 50, 55], 35) := by decide +kernel
theorem dX6_count_36 : decode cX6_count 36 = .ok (.aload_n 0, 1) := by decide +kernel
theorem dX6_count_37 : decode cX6_count 37 = .ok (.getfield 81, 3) := by decide +kernel
theorem dX6_count_40 : decode cX6_count 40 = .ok (.ireturn, 1) := by decide +kernel
end
section
theorem dX6_count_41 : decode cX6_count 41 = .ok (.aload_n 0, 1) := by decide +kernel
theorem dX6_count_42 : decode cX6_count 42 = .ok (.getfield 92, 3) := by decide +kernel
theorem dX6_count_45 : decode cX6_count 45 = .ok (.ireturn, 1) := by decide +kernel
theorem dX6_count_46 : decode cX6_count 46 = .ok (.aload_n 0, 1) := by decide +kernel
theorem dX6_count_47 : decode cX6_count 47 = .ok (.getfield 78, 3) := by decide +kernel
theorem dX6_count_50 : decode cX6_count 50 = .ok (.ireturn, 1) := by decide +kernel
theorem dX6_count_51 : decode cX6_count 51 = .ok (.aload_n 0, 1) := by decide +kernel
theorem dX6_count_52 : decode cX6_count 52 = .ok (.getfield 74, 3) := by decide +kernel
theorem dX6_count_55 : decode cX6_count 55 = .ok (.ireturn, 1) := by decide +kernel
theorem dX6_count_56 : decode cX6_count 56 = .ok (.aload_n 0, 1) := by decide +kernel
theorem dX6_count_57 : decode cX6_count 57 = .ok (.getfield 172, 3) := by decide +kernel
theorem dX6_count_60 : decode cX6_count 60 = .ok (.ireturn, 1) := by decide +kernel
theorem dX6_count_61 : decode cX6_count 61 = .ok (.iconst (-1), 1) := by decide +kernel
theorem dX6_count_62 : decode cX6_count 62 = .ok (.ireturn, 1) := by decide +kernel
set_option maxRecDepth 20000 in
theorem ggX6_total_X6_isSailing : GoodIn wsX6_total wsX6_isSailing := goodIn_r _ [6, 7, 16, 17, 18, 19, 20, 21, 22, 23, 24, 25, 26, 27, 28, 29, 30, 31, 32, 33, 34, 35, 36, 37, 38, 39, 40, 41, 42, 43, 44, 45, 46] (by decide +kernel) (by decide +kernel)
set_option maxRecDepth 20000 in
theorem gX6_total_X6_isSailing : GoodIn wsX6_total (wsV RX6 102 RX6 yX6_isSailing wsX6_isSailing) := goodIn_app (goodIn_of _ (by decide +kernel)) ggX6_total_X6_isSailing
set_option maxRecDepth 20000 in
theorem ggX6_total_X6_isIn : GoodIn wsX6_total wsX6_isIn := goodIn_r _ [10] (by decide +kernel) (by decide +kernel)
set_option maxRecDepth 20000 in
theorem gX6_total_X6_isIn : GoodIn wsX6_total (va_wsS RX6 84 yX6_isIn wsX6_isIn) := goodIn_app (goodIn_of _ (by decide +kernel)) ggX6_total_X6_isIn
set_option maxRecDepth 20000 in
theorem ggX6_total_X6_of : GoodIn wsX6_total wsX6_of := goodIn_r _ [14, 15, 16, 17, 18, 19, 20, 21, 22, 23, 24, 25, 26, 27, 28, 29, 30, 31, 32, 33, 34, 35, 36, 37, 38, 39, 40, 41, 42, 43, 44, 45, 46] (by decide +kernel) (by decide +kernel)
set_option maxRecDepth 20000 in
theorem gX6_total_X6_of : GoodIn wsX6_total (wsV RX6 115 RX6 yX6_of wsX6_of) := goodIn_app (goodIn_of _ (by decide +kernel)) ggX6_total_X6_of
theorem dX6_total_0 : decode cX6_total 0 = .ok (.aload_n 0, 1) := by decide +kernel
theorem dX6_total_1 : decode cX6_total 1 = .ok (.iload_n 1, 1) := by decide +kernel
theorem dX6_total_2 : decode cX6_total 2 = .ok (.invokevirtual 102, 3) := by decide +kernel
theorem dX6_total_5 : decode cX6_total 5 = .ok (.ifCond .eq 12, 3) := by decide +kernel
theorem dX6_total_8 : decode cX6_total 8 = .ok (.iload_n 2, 1) := by decide +kernel
theorem dX6_total_9 : decode cX6_total 9 = .ok (.iconst 0, 1) := by decide +kernel
theorem dX6_total_10 : decode cX6_total 10 = .ok (.iconst 3, 1) := by decide +kernel
theorem dX6_total_11 : decode cX6_total 11 = .ok (.invokestatic 84, 3) := by decide +kernel
theorem dX6_total_14 : decode cX6_total 14 = .ok (.ifCond .ne 5, 3) := by decide +kernel
theorem dX6_total_17 : decode cX6_total 17 = .ok (.iconst (-1), 1) := by decide +kernel
theorem dX6_total_18 : decode cX6_total 18 = .ok (.ireturn, 1) := by decide +kernel
theorem dX6_total_19 : decode cX6_total 19 = .ok (.iconst 0, 1) := by decide +kernel
theorem dX6_total_20 : decode cX6_total 20 = .ok (.istore_n 3, 1) := by decide +kernel
theorem dX6_total_21 : decode cX6_total 21 = .ok (.iconst 0, 1) := by decide +kernel
theorem dX6_total_22 : decode cX6_total 22 = .ok (.istore 4, 2) := by decide +kernel
theorem dX6_total_24 : decode cX6_total 24 = .ok (.iload 4, 2) := by decide +kernel
theorem dX6_total_26 : decode cX6_total 26 = .ok (.aload_n 0, 1) := by decide +kernel
theorem dX6_total_27 : decode cX6_total 27 = .ok (.getfield 74, 3) := by decide +kernel
theorem dX6_total_30 : decode cX6_total 30 = .ok (.if_icmp .ge 111, 3) := by decide +kernel
theorem dX6_total_33 : decode cX6_total 33 = .ok (.aload_n 0, 1) := by decide +kernel
theorem dX6_total_34 : decode cX6_total 34 = .ok (.iload 4, 2) := by decide +kernel
theorem dX6_total_36 : decode cX6_total 36 = .ok (.iconst 0, 1) := by decide +kernel
theorem dX6_total_37 : decode cX6_total 37 = .ok (.invokevirtual 115, 3) := by decide +kernel
theorem dX6_total_40 : decode cX6_total 40 = .ok (.iload_n 1, 1) := by decide +kernel
theorem dX6_total_41 : decode cX6_total 41 = .ok (.if_icmp .ne 94, 3) := by decide +kernel
theorem dX6_total_44 : decode cX6_total 44 = .ok (.aload_n 0, 1) := by decide +kernel
theorem dX6_total_45 : decode cX6_total 45 = .ok (.iload 4, 2) := by decide +kernel
theorem dX6_total_47 : decode cX6_total 47 = .ok (.iconst 4, 1) := by decide +kernel
theorem dX6_total_48 : decode cX6_total 48 = .ok (.invokevirtual 115, 3) := by decide +kernel
theorem dX6_total_51 : decode cX6_total 51 = .ok (.iconst 3, 1) := by decide +kernel
theorem dX6_total_52 : decode cX6_total 52 = .ok (.if_icmp .eq 18, 3) := by decide +kernel
theorem dX6_total_55 : decode cX6_total 55 = .ok (.aload_n 0, 1) := by decide +kernel
theorem dX6_total_56 : decode cX6_total 56 = .ok (.iload 4, 2) := by decide +kernel
theorem dX6_total_58 : decode cX6_total 58 = .ok (.iconst 4, 1) := by decide +kernel
theorem dX6_total_59 : decode cX6_total 59 = .ok (.invokevirtual 115, 3) := by decide +kernel
theorem dX6_total_62 : decode cX6_total 62 = .ok (.bipush 6, 2) := by decide +kernel
theorem dX6_total_64 : decode cX6_total 64 = .ok (.if_icmp .eq 6, 3) := by decide +kernel
theorem dX6_total_67 : decode cX6_total 67 = .ok (.goto 68, 3) := by decide +kernel
theorem dX6_total_70 : decode cX6_total 70 = .ok (.iload_n 3, 1) := by decide +kernel
theorem dX6_total_71 : decode cX6_total 71 = .ok (.iload_n 2, 1) := by decide +kernel
theorem dX6_total_72 : decode cX6_total 72 = .ok (.ifCond .ne 7, 3) := by decide +kernel
theorem dX6_total_75 : decode cX6_total 75 = .ok (.iconst 1, 1) := by decide +kernel
theorem dX6_total_76 : decode cX6_total 76 = .ok (.goto 57, 3) := by decide +kernel
theorem dX6_total_79 : decode cX6_total 79 = .ok (.iload_n 2, 1) := by decide +kernel
theorem dX6_total_80 : decode cX6_total 80 = .ok (.iconst 1, 1) := by decide +kernel
theorem dX6_total_81 : decode cX6_total 81 = .ok (.if_icmp .ne 13, 3) := by decide +kernel
theorem dX6_total_84 : decode cX6_total 84 = .ok (.aload_n 0, 1) := by decide +kernel
theorem dX6_total_85 : decode cX6_total 85 = .ok (.iload 4, 2) := by decide +kernel
theorem dX6_total_87 : decode cX6_total 87 = .ok (.iconst 1, 1) := by decide +kernel
theorem dX6_total_88 : decode cX6_total 88 = .ok (.invokevirtual 115, 3) := by decide +kernel
theorem dX6_total_91 : decode cX6_total 91 = .ok (.goto 42, 3) := by decide +kernel
theorem dX6_total_94 : decode cX6_total 94 = .ok (.iload_n 2, 1) := by decide +kernel
theorem dX6_total_95 : decode cX6_total 95 = .ok (.iconst 3, 1) := by decide +kernel
theorem dX6_total_96 : decode cX6_total 96 = .ok (.if_icmp .ne 14, 3) := by decide +kernel
theorem dX6_total_99 : decode cX6_total 99 = .ok (.aload_n 0, 1) := by decide +kernel
theorem dX6_total_100 : decode cX6_total 100 = .ok (.iload 4, 2) := by decide +kernel
theorem dX6_total_102 : decode cX6_total 102 = .ok (.bipush 10, 2) := by decide +kernel
theorem dX6_total_104 : decode cX6_total 104 = .ok (.invokevirtual 115, 3) := by decide +kernel
theorem dX6_total_107 : decode cX6_total 107 = .ok (.goto 26, 3) := by decide +kernel
theorem dX6_total_110 : decode cX6_total 110 = .ok (.aload_n 0, 1) := by decide +kernel
theorem dX6_total_111 : decode cX6_total 111 = .ok (.iload 4, 2) := by decide +kernel
theorem dX6_total_113 : decode cX6_total 113 = .ok (.bipush 9, 2) := by decide +kernel
theorem dX6_total_115 : decode cX6_total 115 = .ok (.invokevirtual 115, 3) := by decide +kernel
theorem dX6_total_118 : decode cX6_total 118 = .ok (.iconst (-1), 1) := by decide +kernel
theorem dX6_total_119 : decode cX6_total 119 = .ok (.if_icmp .ne 7, 3) := by decide +kernel
theorem dX6_total_122 : decode cX6_total 122 = .ok (.iconst 0, 1) := by decide +kernel
theorem dX6_total_123 : decode cX6_total 123 = .ok (.goto 10, 3) := by decide +kernel
theorem dX6_total_126 : decode cX6_total 126 = .ok (.aload_n 0, 1) := by decide +kernel
theorem dX6_total_127 : decode cX6_total 127 = .ok (.iload 4, 2) := by decide +kernel
theorem dX6_total_129 : decode cX6_total 129 = .ok (.iconst 3, 1) := by decide +kernel
theorem dX6_total_130 : decode cX6_total 130 = .ok (.invokevirtual 115, 3) := by decide +kernel
theorem dX6_total_133 : decode cX6_total 133 = .ok (.iadd, 1) := by decide +kernel
theorem dX6_total_134 : decode cX6_total 134 = .ok (.istore_n 3, 1) := by decide +kernel
theorem dX6_total_135 : decode cX6_total 135 = .ok (.iinc 4 1, 3) := by decide +kernel
theorem dX6_total_138 : decode cX6_total 138 = .ok (.goto (-114), 3) := by decide +kernel
theorem dX6_total_141 : decode cX6_total 141 = .ok (.iload_n 3, 1) := by decide +kernel
theorem dX6_total_142 : decode cX6_total 142 = .ok (.ireturn, 1) := by decide +kernel
set_option maxRecDepth 20000 in
theorem ggX6_kept_X6_of : GoodIn wsX6_kept wsX6_of := goodIn_r _ [6, 7, 8, 9, 10, 11, 12, 13, 14, 15, 16, 17, 18, 19, 20, 21, 22, 23, 24, 25, 26, 27, 28, 29, 30, 31, 32, 33, 34, 35, 36, 37, 38] (by decide +kernel) (by decide +kernel)
set_option maxRecDepth 20000 in
theorem gX6_kept_X6_of : GoodIn wsX6_kept (wsV RX6 115 RX6 yX6_of wsX6_of) := goodIn_app (goodIn_of _ (by decide +kernel)) ggX6_kept_X6_of
theorem dX6_kept_0 : decode cX6_kept 0 = .ok (.lconst 0, 1) := by decide +kernel
theorem dX6_kept_1 : decode cX6_kept 1 = .ok (.lstore_n 1, 1) := by decide +kernel
theorem dX6_kept_2 : decode cX6_kept 2 = .ok (.iconst 0, 1) := by decide +kernel
theorem dX6_kept_3 : decode cX6_kept 3 = .ok (.istore_n 3, 1) := by decide +kernel
theorem dX6_kept_4 : decode cX6_kept 4 = .ok (.iload_n 3, 1) := by decide +kernel
theorem dX6_kept_5 : decode cX6_kept 5 = .ok (.aload_n 0, 1) := by decide +kernel
theorem dX6_kept_6 : decode cX6_kept 6 = .ok (.getfield 74, 3) := by decide +kernel
theorem dX6_kept_9 : decode cX6_kept 9 = .ok (.if_icmp .ge 28, 3) := by decide +kernel
theorem dX6_kept_12 : decode cX6_kept 12 = .ok (.lload_n 1, 1) := by decide +kernel
theorem dX6_kept_13 : decode cX6_kept 13 = .ok (.aload_n 0, 1) := by decide +kernel
theorem dX6_kept_14 : decode cX6_kept 14 = .ok (.iload_n 3, 1) := by decide +kernel
theorem dX6_kept_15 : decode cX6_kept 15 = .ok (.bipush 10, 2) := by decide +kernel
theorem dX6_kept_17 : decode cX6_kept 17 = .ok (.invokevirtual 115, 3) := by decide +kernel
theorem dX6_kept_20 : decode cX6_kept 20 = .ok (.aload_n 0, 1) := by decide +kernel
theorem dX6_kept_21 : decode cX6_kept 21 = .ok (.iload_n 3, 1) := by decide +kernel
theorem dX6_kept_22 : decode cX6_kept 22 = .ok (.bipush 11, 2) := by decide +kernel
theorem dX6_kept_24 : decode cX6_kept 24 = .ok (.invokevirtual 115, 3) := by decide +kernel
theorem dX6_kept_27 : decode cX6_kept 27 = .ok (.isub, 1) := by decide +kernel
theorem dX6_kept_28 : decode cX6_kept 28 = .ok (.i2l, 1) := by decide +kernel
theorem dX6_kept_29 : decode cX6_kept 29 = .ok (.ladd, 1) := by decide +kernel
theorem dX6_kept_30 : decode cX6_kept 30 = .ok (.lstore_n 1, 1) := by decide +kernel
theorem dX6_kept_31 : decode cX6_kept 31 = .ok (.iinc 3 1, 3) := by decide +kernel
theorem dX6_kept_34 : decode cX6_kept 34 = .ok (.goto (-30), 3) := by decide +kernel
theorem dX6_kept_37 : decode cX6_kept 37 = .ok (.lload_n 1, 1) := by decide +kernel
theorem dX6_kept_38 : decode cX6_kept 38 = .ok (.lreturn, 1) := by decide +kernel
set_option maxRecDepth 20000 in
theorem ggX6_audit_X6_isIn : GoodIn wsX6_audit wsX6_isIn := goodIn_r _ [5] (by decide +kernel) (by decide +kernel)
set_option maxRecDepth 20000 in
theorem gX6_audit_X6_isIn : GoodIn wsX6_audit (va_wsS RX6 84 yX6_isIn wsX6_isIn) := goodIn_app (goodIn_of _ (by decide +kernel)) ggX6_audit_X6_isIn
set_option maxRecDepth 20000 in
theorem ggX6_audit_X6_isTicket : GoodIn wsX6_audit wsX6_isTicket := goodIn_r _ [9, 1, 43, 44, 45, 46, 47, 48, 49, 50, 51, 52, 53, 54, 55, 56, 57, 58, 59, 60, 61, 62, 63, 64, 65, 66, 67, 68, 69, 70, 71, 72, 73] (by decide +kernel) (by decide +kernel)
set_option maxRecDepth 20000 in
theorem gX6_audit_X6_isTicket : GoodIn wsX6_audit (wsV RX6 112 RX6 yX6_isTicket wsX6_isTicket) := goodIn_app (goodIn_of _ (by decide +kernel)) ggX6_audit_X6_isTicket
set_option maxRecDepth 20000 in
theorem ggX6_audit_X6_of : GoodIn wsX6_audit wsX6_of := goodIn_r _ [13, 14, 43, 44, 45, 46, 47, 48, 49, 50, 51, 52, 53, 54, 55, 56, 57, 58, 59, 60, 61, 62, 63, 64, 65, 66, 67, 68, 69, 70, 71, 72, 73] (by decide +kernel) (by decide +kernel)
set_option maxRecDepth 20000 in
theorem gX6_audit_X6_of : GoodIn wsX6_audit (wsV RX6 115 RX6 yX6_of wsX6_of) := goodIn_app (goodIn_of _ (by decide +kernel)) ggX6_audit_X6_of
set_option maxRecDepth 20000 in
theorem ggX6_audit_X6_put : GoodIn wsX6_audit wsX6_put := goodIn_r _ [18, 14, 43, 44, 45, 46, 47, 48, 49, 50, 51, 52, 53, 54, 55, 56, 57, 58, 59, 60, 61, 62, 63, 64, 65, 66, 67, 68, 69, 70, 71, 72, 73] (by decide +kernel) (by decide +kernel)
set_option maxRecDepth 20000 in
theorem gX6_audit_X6_put : GoodIn wsX6_audit (wsV RX6 108 RX6 yX6_put wsX6_put) := goodIn_app (goodIn_of _ (by decide +kernel)) ggX6_audit_X6_put
set_option maxRecDepth 20000 in
theorem ggX6_audit_X6_agrees : GoodIn wsX6_audit wsX6_agrees := goodIn_r _ [22, 23, 10, 11, 12, 4, 13, 14, 2, 3, 5, 24, 25, 26, 27, 28, 29, 30, 31, 1, 32, 33, 34, 35, 36, 37, 38, 39, 40, 41, 42, 43, 44, 45, 46, 47, 48, 49, 50, 51, 52, 53, 54, 55, 56, 57, 58, 59, 60, 61, 62, 63, 64, 65, 66, 67, 68, 69, 70, 71, 72, 73] (by decide +kernel) (by decide +kernel)
set_option maxRecDepth 20000 in
theorem gX6_audit_X6_agrees : GoodIn wsX6_audit (wsV RX6 204 RX6 yX6_agrees wsX6_agrees) := goodIn_app (goodIn_of _ (by decide +kernel)) ggX6_audit_X6_agrees
theorem dX6_audit_0 : decode cX6_audit 0 = .ok (.iload_n 2, 1) := by decide +kernel
theorem dX6_audit_1 : decode cX6_audit 1 = .ok (.ifCond .eq 24, 3) := by decide +kernel
theorem dX6_audit_4 : decode cX6_audit 4 = .ok (.iload_n 2, 1) := by decide +kernel
theorem dX6_audit_5 : decode cX6_audit 5 = .ok (.iconst 4, 1) := by decide +kernel
theorem dX6_audit_6 : decode cX6_audit 6 = .ok (.bipush 11, 2) := by decide +kernel
theorem dX6_audit_8 : decode cX6_audit 8 = .ok (.invokestatic 84, 3) := by decide +kernel
theorem dX6_audit_11 : decode cX6_audit 11 = .ok (.ifCond .eq 11, 3) := by decide +kernel
theorem dX6_audit_14 : decode cX6_audit 14 = .ok (.aload_n 0, 1) := by decide +kernel
theorem dX6_audit_15 : decode cX6_audit 15 = .ok (.iload_n 1, 1) := by decide +kernel
theorem dX6_audit_16 : decode cX6_audit 16 = .ok (.invokevirtual 112, 3) := by decide +kernel
theorem dX6_audit_19 : decode cX6_audit 19 = .ok (.ifCond .ne 6, 3) := by decide +kernel
theorem dX6_audit_22 : decode cX6_audit 22 = .ok (.bipush (-2), 2) := by decide +kernel
theorem dX6_audit_24 : decode cX6_audit 24 = .ok (.ireturn, 1) := by decide +kernel
theorem dX6_audit_25 : decode cX6_audit 25 = .ok (.iload_n 2, 1) := by decide +kernel
theorem dX6_audit_26 : decode cX6_audit 26 = .ok (.ifCond .eq 17, 3) := by decide +kernel
theorem dX6_audit_29 : decode cX6_audit 29 = .ok (.aload_n 0, 1) := by decide +kernel
theorem dX6_audit_30 : decode cX6_audit 30 = .ok (.iload_n 1, 1) := by decide +kernel
theorem dX6_audit_31 : decode cX6_audit 31 = .ok (.iload_n 2, 1) := by decide +kernel
theorem dX6_audit_32 : decode cX6_audit 32 = .ok (.aload_n 0, 1) := by decide +kernel
theorem dX6_audit_33 : decode cX6_audit 33 = .ok (.iload_n 1, 1) := by decide +kernel
theorem dX6_audit_34 : decode cX6_audit 34 = .ok (.iload_n 2, 1) := by decide +kernel
theorem dX6_audit_35 : decode cX6_audit 35 = .ok (.invokevirtual 115, 3) := by decide +kernel
theorem dX6_audit_38 : decode cX6_audit 38 = .ok (.iload_n 3, 1) := by decide +kernel
theorem dX6_audit_39 : decode cX6_audit 39 = .ok (.ixor, 1) := by decide +kernel
theorem dX6_audit_40 : decode cX6_audit 40 = .ok (.invokevirtual 108, 3) := by decide +kernel
theorem dX6_audit_43 : decode cX6_audit 43 = .ok (.iconst (-1), 1) := by decide +kernel
theorem dX6_audit_44 : decode cX6_audit 44 = .ok (.istore 4, 2) := by decide +kernel
theorem dX6_audit_46 : decode cX6_audit 46 = .ok (.aload_n 0, 1) := by decide +kernel
theorem dX6_audit_47 : decode cX6_audit 47 = .ok (.getfield 74, 3) := by decide +kernel
theorem dX6_audit_50 : decode cX6_audit 50 = .ok (.iconst 1, 1) := by decide +kernel
theorem dX6_audit_51 : decode cX6_audit 51 = .ok (.isub, 1) := by decide +kernel
theorem dX6_audit_52 : decode cX6_audit 52 = .ok (.istore 5, 2) := by decide +kernel
theorem dX6_audit_54 : decode cX6_audit 54 = .ok (.iload 5, 2) := by decide +kernel
theorem dX6_audit_56 : decode cX6_audit 56 = .ok (.ifCond .lt 22, 3) := by decide +kernel
theorem dX6_audit_59 : decode cX6_audit 59 = .ok (.aload_n 0, 1) := by decide +kernel
theorem dX6_audit_60 : decode cX6_audit 60 = .ok (.iload 5, 2) := by decide +kernel
theorem dX6_audit_62 : decode cX6_audit 62 = .ok (.invokevirtual 204, 3) := by decide +kernel
theorem dX6_audit_65 : decode cX6_audit 65 = .ok (.ifCond .ne 7, 3) := by decide +kernel
theorem dX6_audit_68 : decode cX6_audit 68 = .ok (.iload 5, 2) := by decide +kernel
theorem dX6_audit_70 : decode cX6_audit 70 = .ok (.istore 4, 2) := by decide +kernel
theorem dX6_audit_72 : decode cX6_audit 72 = .ok (.iinc 5 (-1), 3) := by decide +kernel
theorem dX6_audit_75 : decode cX6_audit 75 = .ok (.goto (-21), 3) := by decide +kernel
theorem dX6_audit_78 : decode cX6_audit 78 = .ok (.iload_n 2, 1) := by decide +kernel
theorem dX6_audit_79 : decode cX6_audit 79 = .ok (.ifCond .eq 17, 3) := by decide +kernel
theorem dX6_audit_82 : decode cX6_audit 82 = .ok (.aload_n 0, 1) := by decide +kernel
theorem dX6_audit_83 : decode cX6_audit 83 = .ok (.iload_n 1, 1) := by decide +kernel
theorem dX6_audit_84 : decode cX6_audit 84 = .ok (.iload_n 2, 1) := by decide +kernel
theorem dX6_audit_85 : decode cX6_audit 85 = .ok (.aload_n 0, 1) := by decide +kernel
theorem dX6_audit_86 : decode cX6_audit 86 = .ok (.iload_n 1, 1) := by decide +kernel
theorem dX6_audit_87 : decode cX6_audit 87 = .ok (.iload_n 2, 1) := by decide +kernel
theorem dX6_audit_88 : decode cX6_audit 88 = .ok (.invokevirtual 115, 3) := by decide +kernel
theorem dX6_audit_91 : decode cX6_audit 91 = .ok (.iload_n 3, 1) := by decide +kernel
theorem dX6_audit_92 : decode cX6_audit 92 = .ok (.ixor, 1) := by decide +kernel
theorem dX6_audit_93 : decode cX6_audit 93 = .ok (.invokevirtual 108, 3) := by decide +kernel
theorem dX6_audit_96 : decode cX6_audit 96 = .ok (.iload 4, 2) := by decide +kernel
theorem dX6_audit_98 : decode cX6_audit 98 = .ok (.ireturn, 1) := by decide +kernel
set_option maxRecDepth 20000 in
theorem ggX6_agrees_X6_of : GoodIn wsX6_agrees wsX6_of := goodIn_r _ [6, 7, 31, 32, 33, 34, 35, 36, 37, 38, 39, 40, 41, 42, 43, 44, 45, 46, 47, 48, 49, 50, 51, 52, 53, 54, 55, 56, 57, 58, 59, 60, 61] (by decide +kernel) (by decide +kernel)
set_option maxRecDepth 20000 in
theorem gX6_agrees_X6_of : GoodIn wsX6_agrees (wsV RX6 115 RX6 yX6_of wsX6_of) := goodIn_app (goodIn_of _ (by decide +kernel)) ggX6_agrees_X6_of
set_option maxRecDepth 20000 in
theorem ggX6_agrees_X6_isIn : GoodIn wsX6_agrees wsX6_isIn := goodIn_r _ [10] (by decide +kernel) (by decide +kernel)
set_option maxRecDepth 20000 in
theorem gX6_agrees_X6_isIn : GoodIn wsX6_agrees (va_wsS RX6 84 yX6_isIn wsX6_isIn) := goodIn_app (goodIn_of _ (by decide +kernel)) ggX6_agrees_X6_isIn
set_option maxRecDepth 20000 in
theorem ggX6_agrees_X6_isPlaceRight : GoodIn wsX6_agrees wsX6_isPlaceRight := goodIn_r _ [14, 15, 16, 17, 18, 19, 2, 3, 4, 5, 6, 7, 8, 9, 10, 20, 21, 22, 23, 31, 32, 33, 34, 35, 36, 37, 38, 39, 40, 41, 42, 43, 44, 45, 46, 47, 48, 49, 50, 51, 52, 53, 54, 55, 56, 57, 58, 59, 60, 61] (by decide +kernel) (by decide +kernel)
set_option maxRecDepth 20000 in
theorem gX6_agrees_X6_isPlaceRight : GoodIn wsX6_agrees (wsV RX6 207 RX6 yX6_isPlaceRight wsX6_isPlaceRight) := goodIn_app (goodIn_of _ (by decide +kernel)) ggX6_agrees_X6_isPlaceRight
set_option maxRecDepth 20000 in
theorem ggX6_agrees_X6_isCabinRight : GoodIn wsX6_agrees wsX6_isCabinRight := goodIn_r _ [27, 28, 29, 15, 30, 19, 2, 3, 4, 5, 6, 7, 8, 9, 10, 31, 32, 33, 34, 35, 36, 37, 38, 39, 40, 41, 42, 43, 44, 45, 46, 47, 48, 49, 50, 51, 52, 53, 54, 55, 56, 57, 58, 59, 60, 61] (by decide +kernel) (by decide +kernel)
set_option maxRecDepth 20000 in
theorem gX6_agrees_X6_isCabinRight : GoodIn wsX6_agrees (wsV RX6 210 RX6 yX6_isCabinRight wsX6_isCabinRight) := goodIn_app (goodIn_of _ (by decide +kernel)) ggX6_agrees_X6_isCabinRight
theorem dX6_agrees_0 : decode cX6_agrees 0 = .ok (.aload_n 0, 1) := by decide +kernel
theorem dX6_agrees_1 : decode cX6_agrees 1 = .ok (.iload_n 1, 1) := by decide +kernel
theorem dX6_agrees_2 : decode cX6_agrees 2 = .ok (.iconst 4, 1) := by decide +kernel
theorem dX6_agrees_3 : decode cX6_agrees 3 = .ok (.invokevirtual 115, 3) := by decide +kernel
theorem dX6_agrees_6 : decode cX6_agrees 6 = .ok (.istore_n 2, 1) := by decide +kernel
theorem dX6_agrees_7 : decode cX6_agrees 7 = .ok (.aload_n 0, 1) := by decide +kernel
theorem dX6_agrees_8 : decode cX6_agrees 8 = .ok (.iload_n 1, 1) := by decide +kernel
theorem dX6_agrees_9 : decode cX6_agrees 9 = .ok (.iconst 0, 1) := by decide +kernel
theorem dX6_agrees_10 : decode cX6_agrees 10 = .ok (.invokevirtual 115, 3) := by decide +kernel
theorem dX6_agrees_13 : decode cX6_agrees 13 = .ok (.istore_n 3, 1) := by decide +kernel
theorem dX6_agrees_14 : decode cX6_agrees 14 = .ok (.iload_n 2, 1) := by decide +kernel
theorem dX6_agrees_15 : decode cX6_agrees 15 = .ok (.iconst 0, 1) := by decide +kernel
theorem dX6_agrees_16 : decode cX6_agrees 16 = .ok (.bipush 7, 2) := by decide +kernel
theorem dX6_agrees_18 : decode cX6_agrees 18 = .ok (.invokestatic 84, 3) := by decide +kernel
theorem dX6_agrees_21 : decode cX6_agrees 21 = .ok (.ifCond .eq 23, 3) := by decide +kernel
theorem dX6_agrees_24 : decode cX6_agrees 24 = .ok (.aload_n 0, 1) := by decide +kernel
theorem dX6_agrees_25 : decode cX6_agrees 25 = .ok (.iload_n 1, 1) := by decide +kernel
theorem dX6_agrees_26 : decode cX6_agrees 26 = .ok (.iload_n 3, 1) := by decide +kernel
theorem dX6_agrees_27 : decode cX6_agrees 27 = .ok (.iload_n 2, 1) := by decide +kernel
theorem dX6_agrees_28 : decode cX6_agrees 28 = .ok (.invokevirtual 207, 3) := by decide +kernel
theorem dX6_agrees_31 : decode cX6_agrees 31 = .ok (.ifCond .eq 13, 3) := by decide +kernel
theorem dX6_agrees_34 : decode cX6_agrees 34 = .ok (.aload_n 0, 1) := by decide +kernel
theorem dX6_agrees_35 : decode cX6_agrees 35 = .ok (.iload_n 1, 1) := by decide +kernel
theorem dX6_agrees_36 : decode cX6_agrees 36 = .ok (.iload_n 3, 1) := by decide +kernel
theorem dX6_agrees_37 : decode cX6_agrees 37 = .ok (.iload_n 2, 1) := by decide +kernel
theorem dX6_agrees_38 : decode cX6_agrees 38 = .ok (.invokevirtual 210, 3) := by decide +kernel
theorem dX6_agrees_41 : decode cX6_agrees 41 = .ok (.ifCond .ne 5, 3) := by decide +kernel
theorem dX6_agrees_44 : decode cX6_agrees 44 = .ok (.iconst 0, 1) := by decide +kernel
theorem dX6_agrees_45 : decode cX6_agrees 45 = .ok (.ireturn, 1) := by decide +kernel
theorem dX6_agrees_46 : decode cX6_agrees 46 = .ok (.iload_n 2, 1) := by decide +kernel
theorem dX6_agrees_47 : decode cX6_agrees 47 = .ok (.iconst 1, 1) := by decide +kernel
theorem dX6_agrees_48 : decode cX6_agrees 48 = .ok (.if_icmp .eq 24, 3) := by decide +kernel
theorem dX6_agrees_51 : decode cX6_agrees 51 = .ok (.iload_n 2, 1) := by decide +kernel
theorem dX6_agrees_52 : decode cX6_agrees 52 = .ok (.iconst 2, 1) := by decide +kernel
theorem dX6_agrees_53 : decode cX6_agrees 53 = .ok (.if_icmp .eq 19, 3) := by decide +kernel
theorem dX6_agrees_56 : decode cX6_agrees 56 = .ok (.iload_n 2, 1) := by decide +kernel
theorem dX6_agrees_57 : decode cX6_agrees 57 = .ok (.iconst 3, 1) := by decide +kernel
theorem dX6_agrees_58 : decode cX6_agrees 58 = .ok (.if_icmp .eq 14, 3) := by decide +kernel
theorem dX6_agrees_61 : decode cX6_agrees 61 = .ok (.iload_n 2, 1) := by decide +kernel
theorem dX6_agrees_62 : decode cX6_agrees 62 = .ok (.iconst 4, 1) := by decide +kernel
theorem dX6_agrees_63 : decode cX6_agrees 63 = .ok (.if_icmp .eq 9, 3) := by decide +kernel
theorem dX6_agrees_66 : decode cX6_agrees 66 = .ok (.iload_n 2, 1) := by decide +kernel
theorem dX6_agrees_67 : decode cX6_agrees 67 = .ok (.bipush 6, 2) := by decide +kernel
theorem dX6_agrees_69 : decode cX6_agrees 69 = .ok (.if_icmp .ne 7, 3) := by decide +kernel
theorem dX6_agrees_72 : decode cX6_agrees 72 = .ok (.iconst 1, 1) := by decide +kernel
theorem dX6_agrees_73 : decode cX6_agrees 73 = .ok (.goto 4, 3) := by decide +kernel
theorem dX6_agrees_76 : decode cX6_agrees 76 = .ok (.iconst 0, 1) := by decide +kernel
theorem dX6_agrees_77 : decode cX6_agrees 77 = .ok (.istore 4, 2) := by decide +kernel
theorem dX6_agrees_79 : decode cX6_agrees 79 = .ok (.iload 4, 2) := by decide +kernel
theorem dX6_agrees_81 : decode cX6_agrees 81 = .ok (.ifCond .eq 18, 3) := by decide +kernel
theorem dX6_agrees_84 : decode cX6_agrees 84 = .ok (.aload_n 0, 1) := by decide +kernel
theorem dX6_agrees_85 : decode cX6_agrees 85 = .ok (.iload_n 1, 1) := by decide +kernel
theorem dX6_agrees_86 : decode cX6_agrees 86 = .ok (.iconst 5, 1) := by decide +kernel
theorem dX6_agrees_87 : decode cX6_agrees 87 = .ok (.invokevirtual 115, 3) := by decide +kernel
theorem dX6_agrees_90 : decode cX6_agrees 90 = .ok (.iconst 0, 1) := by decide +kernel
theorem dX6_agrees_91 : decode cX6_agrees 91 = .ok (.ldc 119, 2) := by decide +kernel
theorem dX6_agrees_93 : decode cX6_agrees 93 = .ok (.invokestatic 84, 3) := by decide +kernel
theorem dX6_agrees_96 : decode cX6_agrees 96 = .ok (.ifCond .eq 23, 3) := by decide +kernel
theorem dX6_agrees_99 : decode cX6_agrees 99 = .ok (.iload_n 2, 1) := by decide +kernel
theorem dX6_agrees_100 : decode cX6_agrees 100 = .ok (.ifCond .eq 9, 3) := by decide +kernel
theorem dX6_agrees_103 : decode cX6_agrees 103 = .ok (.iload_n 2, 1) := by decide +kernel
theorem dX6_agrees_104 : decode cX6_agrees 104 = .ok (.bipush 7, 2) := by decide +kernel
theorem dX6_agrees_106 : decode cX6_agrees 106 = .ok (.if_icmp .ne 15, 3) := by decide +kernel
theorem dX6_agrees_109 : decode cX6_agrees 109 = .ok (.aload_n 0, 1) := by decide +kernel
theorem dX6_agrees_110 : decode cX6_agrees 110 = .ok (.iload_n 1, 1) := by decide +kernel
theorem dX6_agrees_111 : decode cX6_agrees 111 = .ok (.iconst 5, 1) := by decide +kernel
theorem dX6_agrees_112 : decode cX6_agrees 112 = .ok (.invokevirtual 115, 3) := by decide +kernel
theorem dX6_agrees_115 : decode cX6_agrees 115 = .ok (.iconst (-1), 1) := by decide +kernel
theorem dX6_agrees_116 : decode cX6_agrees 116 = .ok (.if_icmp .eq 5, 3) := by decide +kernel
theorem dX6_agrees_119 : decode cX6_agrees 119 = .ok (.iconst 0, 1) := by decide +kernel
theorem dX6_agrees_120 : decode cX6_agrees 120 = .ok (.ireturn, 1) := by decide +kernel
theorem dX6_agrees_121 : decode cX6_agrees 121 = .ok (.iload_n 2, 1) := by decide +kernel
theorem dX6_agrees_122 : decode cX6_agrees 122 = .ok (.iconst 5, 1) := by decide +kernel
theorem dX6_agrees_123 : decode cX6_agrees 123 = .ok (.if_icmp .ne 13, 3) := by decide +kernel
theorem dX6_agrees_126 : decode cX6_agrees 126 = .ok (.aload_n 0, 1) := by decide +kernel
theorem dX6_agrees_127 : decode cX6_agrees 127 = .ok (.iload_n 1, 1) := by decide +kernel
theorem dX6_agrees_128 : decode cX6_agrees 128 = .ok (.bipush 10, 2) := by decide +kernel
theorem dX6_agrees_130 : decode cX6_agrees 130 = .ok (.invokevirtual 115, 3) := by decide +kernel
theorem dX6_agrees_133 : decode cX6_agrees 133 = .ok (.goto 22, 3) := by decide +kernel
theorem dX6_agrees_136 : decode cX6_agrees 136 = .ok (.iload_n 2, 1) := by decide +kernel
theorem dX6_agrees_137 : decode cX6_agrees 137 = .ok (.bipush 7, 2) := by decide +kernel
theorem dX6_agrees_139 : decode cX6_agrees 139 = .ok (.if_icmp .ne 15, 3) := by decide +kernel
theorem dX6_agrees_142 : decode cX6_agrees 142 = .ok (.aload_n 0, 1) := by decide +kernel
theorem dX6_agrees_143 : decode cX6_agrees 143 = .ok (.iload_n 1, 1) := by decide +kernel
theorem dX6_agrees_144 : decode cX6_agrees 144 = .ok (.bipush 10, 2) := by decide +kernel
theorem dX6_agrees_146 : decode cX6_agrees 146 = .ok (.invokevirtual 115, 3) := by decide +kernel
theorem dX6_agrees_149 : decode cX6_agrees 149 = .ok (.iconst 2, 1) := by decide +kernel
theorem dX6_agrees_150 : decode cX6_agrees 150 = .ok (.idiv, 1) := by decide +kernel
theorem dX6_agrees_151 : decode cX6_agrees 151 = .ok (.goto 4, 3) := by decide +kernel
theorem dX6_agrees_154 : decode cX6_agrees 154 = .ok (.iconst 0, 1) := by decide +kernel
theorem dX6_agrees_155 : decode cX6_agrees 155 = .ok (.istore 5, 2) := by decide +kernel
theorem dX6_agrees_157 : decode cX6_agrees 157 = .ok (.aload_n 0, 1) := by decide +kernel
theorem dX6_agrees_158 : decode cX6_agrees 158 = .ok (.iload_n 1, 1) := by decide +kernel
theorem dX6_agrees_159 : decode cX6_agrees 159 = .ok (.bipush 11, 2) := by decide +kernel
theorem dX6_agrees_161 : decode cX6_agrees 161 = .ok (.invokevirtual 115, 3) := by decide +kernel
theorem dX6_agrees_164 : decode cX6_agrees 164 = .ok (.iload 5, 2) := by decide +kernel
theorem dX6_agrees_166 : decode cX6_agrees 166 = .ok (.if_icmp .ne 20, 3) := by decide +kernel
theorem dX6_agrees_169 : decode cX6_agrees 169 = .ok (.aload_n 0, 1) := by decide +kernel
theorem dX6_agrees_170 : decode cX6_agrees 170 = .ok (.iload_n 1, 1) := by decide +kernel
theorem dX6_agrees_171 : decode cX6_agrees 171 = .ok (.bipush 10, 2) := by decide +kernel
theorem dX6_agrees_173 : decode cX6_agrees 173 = .ok (.invokevirtual 115, 3) := by decide +kernel
theorem dX6_agrees_176 : decode cX6_agrees 176 = .ok (.sipush 500, 3) := by decide +kernel
theorem dX6_agrees_179 : decode cX6_agrees 179 = .ok (.if_icmp .lt 7, 3) := by decide +kernel
theorem dX6_agrees_182 : decode cX6_agrees 182 = .ok (.iconst 1, 1) := by decide +kernel
theorem dX6_agrees_183 : decode cX6_agrees 183 = .ok (.goto 4, 3) := by decide +kernel
theorem dX6_agrees_186 : decode cX6_agrees 186 = .ok (.iconst 0, 1) := by decide +kernel
theorem dX6_agrees_187 : decode cX6_agrees 187 = .ok (.ireturn, 1) := by decide +kernel
set_option maxRecDepth 20000 in
theorem ggX6_isPlaceRight_X6_of : GoodIn wsX6_isPlaceRight wsX6_of := goodIn_r _ [10, 11, 19, 20, 21, 22, 23, 24, 25, 26, 27, 28, 29, 30, 31, 32, 33, 34, 35, 36, 37, 38, 39, 40, 41, 42, 43, 44, 45, 46, 47, 48, 49] (by decide +kernel) (by decide +kernel)
set_option maxRecDepth 20000 in
theorem gX6_isPlaceRight_X6_of : GoodIn wsX6_isPlaceRight (wsV RX6 115 RX6 yX6_of wsX6_of) := goodIn_app (goodIn_of _ (by decide +kernel)) ggX6_isPlaceRight_X6_of
set_option maxRecDepth 20000 in
theorem ggX6_isPlaceRight_X6_isIn : GoodIn wsX6_isPlaceRight wsX6_isIn := goodIn_r _ [14] (by decide +kernel) (by decide +kernel)
set_option maxRecDepth 20000 in
theorem gX6_isPlaceRight_X6_isIn : GoodIn wsX6_isPlaceRight (va_wsS RX6 84 yX6_isIn wsX6_isIn) := goodIn_app (goodIn_of _ (by decide +kernel)) ggX6_isPlaceRight_X6_isIn
set_option maxRecDepth 20000 in
theorem ggX6_isPlaceRight_X6_isAboard : GoodIn wsX6_isPlaceRight wsX6_isAboard := goodIn_r _ [18, 6, 7, 8, 9, 10, 11, 19, 20, 21, 22, 23, 24, 25, 26, 27, 28, 29, 30, 31, 32, 33, 34, 35, 36, 37, 38, 39, 40, 41, 42, 43, 44, 45, 46, 47, 48, 49] (by decide +kernel) (by decide +kernel)
set_option maxRecDepth 20000 in
theorem gX6_isPlaceRight_X6_isAboard : GoodIn wsX6_isPlaceRight (wsV RX6 130 RX6 yX6_isAboard wsX6_isAboard) := goodIn_app (goodIn_of _ (by decide +kernel)) ggX6_isPlaceRight_X6_isAboard
theorem dX6_isPlaceRight_0 : decode cX6_isPlaceRight 0 = .ok (.iload_n 3, 1) := by decide +kernel
theorem dX6_isPlaceRight_1 : decode cX6_isPlaceRight 1 = .ok (.iconst 3, 1) := by decide +kernel
theorem dX6_isPlaceRight_2 : decode cX6_isPlaceRight 2 = .ok (.if_icmp .eq 42, 3) := by decide +kernel
theorem dX6_isPlaceRight_5 : decode cX6_isPlaceRight 5 = .ok (.aload_n 0, 1) := by decide +kernel
theorem dX6_isPlaceRight_6 : decode cX6_isPlaceRight 6 = .ok (.iload_n 1, 1) := by decide +kernel
theorem dX6_isPlaceRight_7 : decode cX6_isPlaceRight 7 = .ok (.bipush 6, 2) := by decide +kernel
theorem dX6_isPlaceRight_9 : decode cX6_isPlaceRight 9 = .ok (.invokevirtual 115, 3) := by decide +kernel
theorem dX6_isPlaceRight_12 : decode cX6_isPlaceRight 12 = .ok (.iconst (-1), 1) := by decide +kernel
theorem dX6_isPlaceRight_13 : decode cX6_isPlaceRight 13 = .ok (.if_icmp .ne 29, 3) := by decide +kernel
theorem dX6_isPlaceRight_16 : decode cX6_isPlaceRight 16 = .ok (.aload_n 0, 1) := by decide +kernel
theorem dX6_isPlaceRight_17 : decode cX6_isPlaceRight 17 = .ok (.iload_n 1, 1) := by decide +kernel
theorem dX6_isPlaceRight_18 : decode cX6_isPlaceRight 18 = .ok (.bipush 7, 2) := by decide +kernel
theorem dX6_isPlaceRight_20 : decode cX6_isPlaceRight 20 = .ok (.invokevirtual 115, 3) := by decide +kernel
theorem dX6_isPlaceRight_23 : decode cX6_isPlaceRight 23 = .ok (.iconst (-1), 1) := by decide +kernel
theorem dX6_isPlaceRight_24 : decode cX6_isPlaceRight 24 = .ok (.if_icmp .ne 18, 3) := by decide +kernel
theorem dX6_isPlaceRight_27 : decode cX6_isPlaceRight 27 = .ok (.aload_n 0, 1) := by decide +kernel
theorem dX6_isPlaceRight_28 : decode cX6_isPlaceRight 28 = .ok (.iload_n 1, 1) := by decide +kernel
theorem dX6_isPlaceRight_29 : decode cX6_isPlaceRight 29 = .ok (.bipush 8, 2) := by decide +kernel
theorem dX6_isPlaceRight_31 : decode cX6_isPlaceRight 31 = .ok (.invokevirtual 115, 3) := by decide +kernel
theorem dX6_isPlaceRight_34 : decode cX6_isPlaceRight 34 = .ok (.iconst (-1), 1) := by decide +kernel
theorem dX6_isPlaceRight_35 : decode cX6_isPlaceRight 35 = .ok (.if_icmp .ne 7, 3) := by decide +kernel
theorem dX6_isPlaceRight_38 : decode cX6_isPlaceRight 38 = .ok (.iconst 1, 1) := by decide +kernel
theorem dX6_isPlaceRight_39 : decode cX6_isPlaceRight 39 = .ok (.goto 4, 3) := by decide +kernel
theorem dX6_isPlaceRight_42 : decode cX6_isPlaceRight 42 = .ok (.iconst 0, 1) := by decide +kernel
theorem dX6_isPlaceRight_43 : decode cX6_isPlaceRight 43 = .ok (.ireturn, 1) := by decide +kernel
theorem dX6_isPlaceRight_44 : decode cX6_isPlaceRight 44 = .ok (.aload_n 0, 1) := by decide +kernel
theorem dX6_isPlaceRight_45 : decode cX6_isPlaceRight 45 = .ok (.getfield 29, 3) := by decide +kernel
theorem dX6_isPlaceRight_48 : decode cX6_isPlaceRight 48 = .ok (.iload_n 2, 1) := by decide +kernel
theorem dX6_isPlaceRight_49 : decode cX6_isPlaceRight 49 = .ok (.iaload, 1) := by decide +kernel
theorem dX6_isPlaceRight_50 : decode cX6_isPlaceRight 50 = .ok (.istore 4, 2) := by decide +kernel
theorem dX6_isPlaceRight_52 : decode cX6_isPlaceRight 52 = .ok (.aload_n 0, 1) := by decide +kernel
theorem dX6_isPlaceRight_53 : decode cX6_isPlaceRight 53 = .ok (.iload_n 1, 1) := by decide +kernel
theorem dX6_isPlaceRight_54 : decode cX6_isPlaceRight 54 = .ok (.bipush 6, 2) := by decide +kernel
theorem dX6_isPlaceRight_56 : decode cX6_isPlaceRight 56 = .ok (.invokevirtual 115, 3) := by decide +kernel
theorem dX6_isPlaceRight_59 : decode cX6_isPlaceRight 59 = .ok (.iconst 0, 1) := by decide +kernel
theorem dX6_isPlaceRight_60 : decode cX6_isPlaceRight 60 = .ok (.aload_n 0, 1) := by decide +kernel
theorem dX6_isPlaceRight_61 : decode cX6_isPlaceRight 61 = .ok (.getfield 7, 3) := by decide +kernel
theorem dX6_isPlaceRight_64 : decode cX6_isPlaceRight 64 = .ok (.iload 4, 2) := by decide +kernel
theorem dX6_isPlaceRight_66 : decode cX6_isPlaceRight 66 = .ok (.iaload, 1) := by decide +kernel
theorem dX6_isPlaceRight_67 : decode cX6_isPlaceRight 67 = .ok (.iconst 1, 1) := by decide +kernel
theorem dX6_isPlaceRight_68 : decode cX6_isPlaceRight 68 = .ok (.isub, 1) := by decide +kernel
theorem dX6_isPlaceRight_69 : decode cX6_isPlaceRight 69 = .ok (.invokestatic 84, 3) := by decide +kernel
theorem dX6_isPlaceRight_72 : decode cX6_isPlaceRight 72 = .ok (.ifCond .eq 54, 3) := by decide +kernel
theorem dX6_isPlaceRight_75 : decode cX6_isPlaceRight 75 = .ok (.aload_n 0, 1) := by decide +kernel
theorem dX6_isPlaceRight_76 : decode cX6_isPlaceRight 76 = .ok (.iload_n 1, 1) := by decide +kernel
theorem dX6_isPlaceRight_77 : decode cX6_isPlaceRight 77 = .ok (.bipush 7, 2) := by decide +kernel
theorem dX6_isPlaceRight_79 : decode cX6_isPlaceRight 79 = .ok (.invokevirtual 115, 3) := by decide +kernel
theorem dX6_isPlaceRight_82 : decode cX6_isPlaceRight 82 = .ok (.iconst 0, 1) := by decide +kernel
theorem dX6_isPlaceRight_83 : decode cX6_isPlaceRight 83 = .ok (.aload_n 0, 1) := by decide +kernel
theorem dX6_isPlaceRight_84 : decode cX6_isPlaceRight 84 = .ok (.getfield 13, 3) := by decide +kernel
theorem dX6_isPlaceRight_87 : decode cX6_isPlaceRight 87 = .ok (.iload 4, 2) := by decide +kernel
theorem dX6_isPlaceRight_89 : decode cX6_isPlaceRight 89 = .ok (.iaload, 1) := by decide +kernel
theorem dX6_isPlaceRight_90 : decode cX6_isPlaceRight 90 = .ok (.iconst 1, 1) := by decide +kernel
theorem dX6_isPlaceRight_91 : decode cX6_isPlaceRight 91 = .ok (.isub, 1) := by decide +kernel
theorem dX6_isPlaceRight_92 : decode cX6_isPlaceRight 92 = .ok (.invokestatic 84, 3) := by decide +kernel
theorem dX6_isPlaceRight_95 : decode cX6_isPlaceRight 95 = .ok (.ifCond .eq 31, 3) := by decide +kernel
theorem dX6_isPlaceRight_98 : decode cX6_isPlaceRight 98 = .ok (.aload_n 0, 1) := by decide +kernel
theorem dX6_isPlaceRight_99 : decode cX6_isPlaceRight 99 = .ok (.iload_n 1, 1) := by decide +kernel
theorem dX6_isPlaceRight_100 : decode cX6_isPlaceRight 100 = .ok (.bipush 8, 2) := by decide +kernel
theorem dX6_isPlaceRight_102 : decode cX6_isPlaceRight 102 = .ok (.invokevirtual 115, 3) := by decide +kernel
theorem dX6_isPlaceRight_105 : decode cX6_isPlaceRight 105 = .ok (.iconst 0, 1) := by decide +kernel
theorem dX6_isPlaceRight_106 : decode cX6_isPlaceRight 106 = .ok (.aload_n 0, 1) := by decide +kernel
theorem dX6_isPlaceRight_107 : decode cX6_isPlaceRight 107 = .ok (.getfield 16, 3) := by decide +kernel
theorem dX6_isPlaceRight_110 : decode cX6_isPlaceRight 110 = .ok (.iload 4, 2) := by decide +kernel
theorem dX6_isPlaceRight_112 : decode cX6_isPlaceRight 112 = .ok (.iaload, 1) := by decide +kernel
theorem dX6_isPlaceRight_113 : decode cX6_isPlaceRight 113 = .ok (.aload_n 0, 1) := by decide +kernel
theorem dX6_isPlaceRight_114 : decode cX6_isPlaceRight 114 = .ok (.iload_n 1, 1) := by decide +kernel
theorem dX6_isPlaceRight_115 : decode cX6_isPlaceRight 115 = .ok (.iconst 1, 1) := by decide +kernel
theorem dX6_isPlaceRight_116 : decode cX6_isPlaceRight 116 = .ok (.invokevirtual 115, 3) := by decide +kernel
theorem dX6_isPlaceRight_119 : decode cX6_isPlaceRight 119 = .ok (.isub, 1) := by decide +kernel
theorem dX6_isPlaceRight_120 : decode cX6_isPlaceRight 120 = .ok (.invokestatic 84, 3) := by decide +kernel
theorem dX6_isPlaceRight_123 : decode cX6_isPlaceRight 123 = .ok (.ifCond .ne 5, 3) := by decide +kernel
theorem dX6_isPlaceRight_126 : decode cX6_isPlaceRight 126 = .ok (.iconst 0, 1) := by decide +kernel
theorem dX6_isPlaceRight_127 : decode cX6_isPlaceRight 127 = .ok (.ireturn, 1) := by decide +kernel
theorem dX6_isPlaceRight_128 : decode cX6_isPlaceRight 128 = .ok (.iconst 0, 1) := by decide +kernel
theorem dX6_isPlaceRight_129 : decode cX6_isPlaceRight 129 = .ok (.istore 5, 2) := by decide +kernel
theorem dX6_isPlaceRight_131 : decode cX6_isPlaceRight 131 = .ok (.iload 5, 2) := by decide +kernel
theorem dX6_isPlaceRight_133 : decode cX6_isPlaceRight 133 = .ok (.aload_n 0, 1) := by decide +kernel
theorem dX6_isPlaceRight_134 : decode cX6_isPlaceRight 134 = .ok (.getfield 74, 3) := by decide +kernel
theorem dX6_isPlaceRight_137 : decode cX6_isPlaceRight 137 = .ok (.if_icmp .ge 121, 3) := by decide +kernel
theorem dX6_isPlaceRight_140 : decode cX6_isPlaceRight 140 = .ok (.iload 5, 2) := by decide +kernel
theorem dX6_isPlaceRight_142 : decode cX6_isPlaceRight 142 = .ok (.iload_n 1, 1) := by decide +kernel
theorem dX6_isPlaceRight_143 : decode cX6_isPlaceRight 143 = .ok (.if_icmp .eq 109, 3) := by decide +kernel
theorem dX6_isPlaceRight_146 : decode cX6_isPlaceRight 146 = .ok (.aload_n 0, 1) := by decide +kernel
theorem dX6_isPlaceRight_147 : decode cX6_isPlaceRight 147 = .ok (.iload 5, 2) := by decide +kernel
theorem dX6_isPlaceRight_149 : decode cX6_isPlaceRight 149 = .ok (.iload_n 2, 1) := by decide +kernel
theorem dX6_isPlaceRight_150 : decode cX6_isPlaceRight 150 = .ok (.invokevirtual 130, 3) := by decide +kernel
theorem dX6_isPlaceRight_153 : decode cX6_isPlaceRight 153 = .ok (.ifCond .eq 99, 3) := by decide +kernel
theorem dX6_isPlaceRight_156 : decode cX6_isPlaceRight 156 = .ok (.aload_n 0, 1) := by decide +kernel
theorem dX6_isPlaceRight_157 : decode cX6_isPlaceRight 157 = .ok (.iload 5, 2) := by decide +kernel
theorem dX6_isPlaceRight_159 : decode cX6_isPlaceRight 159 = .ok (.bipush 6, 2) := by decide +kernel
theorem dX6_isPlaceRight_161 : decode cX6_isPlaceRight 161 = .ok (.invokevirtual 115, 3) := by decide +kernel
theorem dX6_isPlaceRight_164 : decode cX6_isPlaceRight 164 = .ok (.aload_n 0, 1) := by decide +kernel
theorem dX6_isPlaceRight_165 : decode cX6_isPlaceRight 165 = .ok (.iload_n 1, 1) := by decide +kernel
theorem dX6_isPlaceRight_166 : decode cX6_isPlaceRight 166 = .ok (.bipush 6, 2) := by decide +kernel
theorem dX6_isPlaceRight_168 : decode cX6_isPlaceRight 168 = .ok (.invokevirtual 115, 3) := by decide +kernel
theorem dX6_isPlaceRight_171 : decode cX6_isPlaceRight 171 = .ok (.if_icmp .ne 81, 3) := by decide +kernel
theorem dX6_isPlaceRight_174 : decode cX6_isPlaceRight 174 = .ok (.aload_n 0, 1) := by decide +kernel
theorem dX6_isPlaceRight_175 : decode cX6_isPlaceRight 175 = .ok (.iload 5, 2) := by decide +kernel
theorem dX6_isPlaceRight_177 : decode cX6_isPlaceRight 177 = .ok (.bipush 7, 2) := by decide +kernel
theorem dX6_isPlaceRight_179 : decode cX6_isPlaceRight 179 = .ok (.invokevirtual 115, 3) := by decide +kernel
theorem dX6_isPlaceRight_182 : decode cX6_isPlaceRight 182 = .ok (.aload_n 0, 1) := by decide +kernel
theorem dX6_isPlaceRight_183 : decode cX6_isPlaceRight 183 = .ok (.iload_n 1, 1) := by decide +kernel
theorem dX6_isPlaceRight_184 : decode cX6_isPlaceRight 184 = .ok (.bipush 7, 2) := by decide +kernel
theorem dX6_isPlaceRight_186 : decode cX6_isPlaceRight 186 = .ok (.invokevirtual 115, 3) := by decide +kernel
theorem dX6_isPlaceRight_189 : decode cX6_isPlaceRight 189 = .ok (.if_icmp .eq 6, 3) := by decide +kernel
theorem dX6_isPlaceRight_192 : decode cX6_isPlaceRight 192 = .ok (.goto 60, 3) := by decide +kernel
theorem dX6_isPlaceRight_195 : decode cX6_isPlaceRight 195 = .ok (.aload_n 0, 1) := by decide +kernel
theorem dX6_isPlaceRight_196 : decode cX6_isPlaceRight 196 = .ok (.iload 5, 2) := by decide +kernel
theorem dX6_isPlaceRight_198 : decode cX6_isPlaceRight 198 = .ok (.bipush 8, 2) := by decide +kernel
theorem dX6_isPlaceRight_200 : decode cX6_isPlaceRight 200 = .ok (.invokevirtual 115, 3) := by decide +kernel
theorem dX6_isPlaceRight_203 : decode cX6_isPlaceRight 203 = .ok (.i2l, 1) := by decide +kernel
theorem dX6_isPlaceRight_204 : decode cX6_isPlaceRight 204 = .ok (.lstore 6, 2) := by decide +kernel
theorem dX6_isPlaceRight_206 : decode cX6_isPlaceRight 206 = .ok (.lload 6, 2) := by decide +kernel
theorem dX6_isPlaceRight_208 : decode cX6_isPlaceRight 208 = .ok (.aload_n 0, 1) := by decide +kernel
theorem dX6_isPlaceRight_209 : decode cX6_isPlaceRight 209 = .ok (.iload_n 1, 1) := by decide +kernel
theorem dX6_isPlaceRight_210 : decode cX6_isPlaceRight 210 = .ok (.bipush 8, 2) := by decide +kernel
theorem dX6_isPlaceRight_212 : decode cX6_isPlaceRight 212 = .ok (.invokevirtual 115, 3) := by decide +kernel
theorem dX6_isPlaceRight_215 : decode cX6_isPlaceRight 215 = .ok (.aload_n 0, 1) := by decide +kernel
theorem dX6_isPlaceRight_216 : decode cX6_isPlaceRight 216 = .ok (.iload_n 1, 1) := by decide +kernel
theorem dX6_isPlaceRight_217 : decode cX6_isPlaceRight 217 = .ok (.iconst 1, 1) := by decide +kernel
theorem dX6_isPlaceRight_218 : decode cX6_isPlaceRight 218 = .ok (.invokevirtual 115, 3) := by decide +kernel
theorem dX6_isPlaceRight_221 : decode cX6_isPlaceRight 221 = .ok (.iadd, 1) := by decide +kernel
theorem dX6_isPlaceRight_222 : decode cX6_isPlaceRight 222 = .ok (.i2l, 1) := by decide +kernel
theorem dX6_isPlaceRight_223 : decode cX6_isPlaceRight 223 = .ok (.lcmp, 1) := by decide +kernel
theorem dX6_isPlaceRight_224 : decode cX6_isPlaceRight 224 = .ok (.ifCond .ge 28, 3) := by decide +kernel
theorem dX6_isPlaceRight_227 : decode cX6_isPlaceRight 227 = .ok (.lload 6, 2) := by decide +kernel
theorem dX6_isPlaceRight_229 : decode cX6_isPlaceRight 229 = .ok (.aload_n 0, 1) := by decide +kernel
theorem dX6_isPlaceRight_230 : decode cX6_isPlaceRight 230 = .ok (.iload 5, 2) := by decide +kernel
theorem dX6_isPlaceRight_232 : decode cX6_isPlaceRight 232 = .ok (.iconst 1, 1) := by decide +kernel
theorem dX6_isPlaceRight_233 : decode cX6_isPlaceRight 233 = .ok (.invokevirtual 115, 3) := by decide +kernel
theorem dX6_isPlaceRight_236 : decode cX6_isPlaceRight 236 = .ok (.i2l, 1) := by decide +kernel
theorem dX6_isPlaceRight_237 : decode cX6_isPlaceRight 237 = .ok (.ladd, 1) := by decide +kernel
theorem dX6_isPlaceRight_238 : decode cX6_isPlaceRight 238 = .ok (.aload_n 0, 1) := by decide +kernel
theorem dX6_isPlaceRight_239 : decode cX6_isPlaceRight 239 = .ok (.iload_n 1, 1) := by decide +kernel
theorem dX6_isPlaceRight_240 : decode cX6_isPlaceRight 240 = .ok (.bipush 8, 2) := by decide +kernel
theorem dX6_isPlaceRight_242 : decode cX6_isPlaceRight 242 = .ok (.invokevirtual 115, 3) := by decide +kernel
theorem dX6_isPlaceRight_245 : decode cX6_isPlaceRight 245 = .ok (.i2l, 1) := by decide +kernel
theorem dX6_isPlaceRight_246 : decode cX6_isPlaceRight 246 = .ok (.lcmp, 1) := by decide +kernel
theorem dX6_isPlaceRight_247 : decode cX6_isPlaceRight 247 = .ok (.ifCond .le 5, 3) := by decide +kernel
theorem dX6_isPlaceRight_250 : decode cX6_isPlaceRight 250 = .ok (.iconst 0, 1) := by decide +kernel
theorem dX6_isPlaceRight_251 : decode cX6_isPlaceRight 251 = .ok (.ireturn, 1) := by decide +kernel
theorem dX6_isPlaceRight_252 : decode cX6_isPlaceRight 252 = .ok (.iinc 5 1, 3) := by decide +kernel
theorem dX6_isPlaceRight_255 : decode cX6_isPlaceRight 255 = .ok (.goto (-124), 3) := by decide +kernel
theorem dX6_isPlaceRight_258 : decode cX6_isPlaceRight 258 = .ok (.iconst 1, 1) := by decide +kernel
theorem dX6_isPlaceRight_259 : decode cX6_isPlaceRight 259 = .ok (.ireturn, 1) := by decide +kernel
set_option maxRecDepth 20000 in
theorem ggX6_isCabinRight_X6_of : GoodIn wsX6_isCabinRight wsX6_of := goodIn_r _ [10, 11, 15, 16, 17, 18, 19, 20, 21, 22, 23, 24, 25, 26, 27, 28, 29, 30, 31, 32, 33, 34, 35, 36, 37, 38, 39, 40, 41, 42, 43, 44, 45] (by decide +kernel) (by decide +kernel)
set_option maxRecDepth 20000 in
theorem gX6_isCabinRight_X6_of : GoodIn wsX6_isCabinRight (wsV RX6 115 RX6 yX6_of wsX6_of) := goodIn_app (goodIn_of _ (by decide +kernel)) ggX6_isCabinRight_X6_of
set_option maxRecDepth 20000 in
theorem ggX6_isCabinRight_X6_isIn : GoodIn wsX6_isCabinRight wsX6_isIn := goodIn_r _ [14] (by decide +kernel) (by decide +kernel)
set_option maxRecDepth 20000 in
theorem gX6_isCabinRight_X6_isIn : GoodIn wsX6_isCabinRight (va_wsS RX6 84 yX6_isIn wsX6_isIn) := goodIn_app (goodIn_of _ (by decide +kernel)) ggX6_isCabinRight_X6_isIn
theorem dX6_isCabinRight_0 : decode cX6_isCabinRight 0 = .ok (.aload_n 0, 1) := by decide +kernel
theorem dX6_isCabinRight_1 : decode cX6_isCabinRight 1 = .ok (.iload_n 1, 1) := by decide +kernel
theorem dX6_isCabinRight_2 : decode cX6_isCabinRight 2 = .ok (.bipush 9, 2) := by decide +kernel
theorem dX6_isCabinRight_4 : decode cX6_isCabinRight 4 = .ok (.invokevirtual 115, 3) := by decide +kernel
theorem dX6_isCabinRight_7 : decode cX6_isCabinRight 7 = .ok (.istore 4, 2) := by decide +kernel
theorem dX6_isCabinRight_9 : decode cX6_isCabinRight 9 = .ok (.iload 4, 2) := by decide +kernel
theorem dX6_isCabinRight_11 : decode cX6_isCabinRight 11 = .ok (.iconst (-1), 1) := by decide +kernel
theorem dX6_isCabinRight_12 : decode cX6_isCabinRight 12 = .ok (.if_icmp .ne 5, 3) := by decide +kernel
theorem dX6_isCabinRight_15 : decode cX6_isCabinRight 15 = .ok (.iconst 1, 1) := by decide +kernel
theorem dX6_isCabinRight_16 : decode cX6_isCabinRight 16 = .ok (.ireturn, 1) := by decide +kernel
theorem dX6_isCabinRight_17 : decode cX6_isCabinRight 17 = .ok (.iload_n 3, 1) := by decide +kernel
theorem dX6_isCabinRight_18 : decode cX6_isCabinRight 18 = .ok (.iconst 3, 1) := by decide +kernel
theorem dX6_isCabinRight_19 : decode cX6_isCabinRight 19 = .ok (.if_icmp .eq 9, 3) := by decide +kernel
theorem dX6_isCabinRight_22 : decode cX6_isCabinRight 22 = .ok (.iload_n 3, 1) := by decide +kernel
theorem dX6_isCabinRight_23 : decode cX6_isCabinRight 23 = .ok (.bipush 6, 2) := by decide +kernel
theorem dX6_isCabinRight_25 : decode cX6_isCabinRight 25 = .ok (.if_icmp .ne 59, 3) := by decide +kernel
theorem dX6_isCabinRight_28 : decode cX6_isCabinRight 28 = .ok (.aload_n 0, 1) := by decide +kernel
theorem dX6_isCabinRight_29 : decode cX6_isCabinRight 29 = .ok (.iload_n 1, 1) := by decide +kernel
theorem dX6_isCabinRight_30 : decode cX6_isCabinRight 30 = .ok (.iconst 3, 1) := by decide +kernel
theorem dX6_isCabinRight_31 : decode cX6_isCabinRight 31 = .ok (.invokevirtual 115, 3) := by decide +kernel
theorem dX6_isCabinRight_34 : decode cX6_isCabinRight 34 = .ok (.ifCond .eq 50, 3) := by decide +kernel
theorem dX6_isCabinRight_37 : decode cX6_isCabinRight 37 = .ok (.iload 4, 2) := by decide +kernel
theorem dX6_isCabinRight_39 : decode cX6_isCabinRight 39 = .ok (.iconst 0, 1) := by decide +kernel
theorem dX6_isCabinRight_40 : decode cX6_isCabinRight 40 = .ok (.aload_n 0, 1) := by decide +kernel
theorem dX6_isCabinRight_41 : decode cX6_isCabinRight 41 = .ok (.getfield 92, 3) := by decide +kernel
theorem dX6_isCabinRight_44 : decode cX6_isCabinRight 44 = .ok (.iconst 1, 1) := by decide +kernel
theorem dX6_isCabinRight_45 : decode cX6_isCabinRight 45 = .ok (.isub, 1) := by decide +kernel
theorem dX6_isCabinRight_46 : decode cX6_isCabinRight 46 = .ok (.invokestatic 84, 3) := by decide +kernel
theorem dX6_isCabinRight_49 : decode cX6_isCabinRight 49 = .ok (.ifCond .eq 35, 3) := by decide +kernel
theorem dX6_isCabinRight_52 : decode cX6_isCabinRight 52 = .ok (.aload_n 0, 1) := by decide +kernel
theorem dX6_isCabinRight_53 : decode cX6_isCabinRight 53 = .ok (.getfield 23, 3) := by decide +kernel
theorem dX6_isCabinRight_56 : decode cX6_isCabinRight 56 = .ok (.iload 4, 2) := by decide +kernel
theorem dX6_isCabinRight_58 : decode cX6_isCabinRight 58 = .ok (.iaload, 1) := by decide +kernel
theorem dX6_isCabinRight_59 : decode cX6_isCabinRight 59 = .ok (.aload_n 0, 1) := by decide +kernel
theorem dX6_isCabinRight_60 : decode cX6_isCabinRight 60 = .ok (.getfield 29, 3) := by decide +kernel
theorem dX6_isCabinRight_63 : decode cX6_isCabinRight 63 = .ok (.iload_n 2, 1) := by decide +kernel
theorem dX6_isCabinRight_64 : decode cX6_isCabinRight 64 = .ok (.iaload, 1) := by decide +kernel
theorem dX6_isCabinRight_65 : decode cX6_isCabinRight 65 = .ok (.if_icmp .ne 19, 3) := by decide +kernel
theorem dX6_isCabinRight_68 : decode cX6_isCabinRight 68 = .ok (.aload_n 0, 1) := by decide +kernel
theorem dX6_isCabinRight_69 : decode cX6_isCabinRight 69 = .ok (.getfield 26, 3) := by decide +kernel
theorem dX6_isCabinRight_72 : decode cX6_isCabinRight 72 = .ok (.iload 4, 2) := by decide +kernel
theorem dX6_isCabinRight_74 : decode cX6_isCabinRight 74 = .ok (.iaload, 1) := by decide +kernel
theorem dX6_isCabinRight_75 : decode cX6_isCabinRight 75 = .ok (.aload_n 0, 1) := by decide +kernel
theorem dX6_isCabinRight_76 : decode cX6_isCabinRight 76 = .ok (.iload_n 1, 1) := by decide +kernel
theorem dX6_isCabinRight_77 : decode cX6_isCabinRight 77 = .ok (.iconst 3, 1) := by decide +kernel
theorem dX6_isCabinRight_78 : decode cX6_isCabinRight 78 = .ok (.invokevirtual 115, 3) := by decide +kernel
theorem dX6_isCabinRight_81 : decode cX6_isCabinRight 81 = .ok (.if_icmp .ge 5, 3) := by decide +kernel
theorem dX6_isCabinRight_84 : decode cX6_isCabinRight 84 = .ok (.iconst 0, 1) := by decide +kernel
theorem dX6_isCabinRight_85 : decode cX6_isCabinRight 85 = .ok (.ireturn, 1) := by decide +kernel
theorem dX6_isCabinRight_86 : decode cX6_isCabinRight 86 = .ok (.iconst 0, 1) := by decide +kernel
theorem dX6_isCabinRight_87 : decode cX6_isCabinRight 87 = .ok (.istore 5, 2) := by decide +kernel
theorem dX6_isCabinRight_89 : decode cX6_isCabinRight 89 = .ok (.iload 5, 2) := by decide +kernel
theorem dX6_isCabinRight_91 : decode cX6_isCabinRight 91 = .ok (.aload_n 0, 1) := by decide +kernel
theorem dX6_isCabinRight_92 : decode cX6_isCabinRight 92 = .ok (.getfield 74, 3) := by decide +kernel
theorem dX6_isCabinRight_95 : decode cX6_isCabinRight 95 = .ok (.if_icmp .ge 64, 3) := by decide +kernel
theorem dX6_isCabinRight_98 : decode cX6_isCabinRight 98 = .ok (.iload 5, 2) := by decide +kernel
theorem dX6_isCabinRight_100 : decode cX6_isCabinRight 100 = .ok (.iload_n 1, 1) := by decide +kernel
theorem dX6_isCabinRight_101 : decode cX6_isCabinRight 101 = .ok (.if_icmp .eq 52, 3) := by decide +kernel
theorem dX6_isCabinRight_104 : decode cX6_isCabinRight 104 = .ok (.aload_n 0, 1) := by decide +kernel
theorem dX6_isCabinRight_105 : decode cX6_isCabinRight 105 = .ok (.iload 5, 2) := by decide +kernel
theorem dX6_isCabinRight_107 : decode cX6_isCabinRight 107 = .ok (.iconst 0, 1) := by decide +kernel
theorem dX6_isCabinRight_108 : decode cX6_isCabinRight 108 = .ok (.invokevirtual 115, 3) := by decide +kernel
theorem dX6_isCabinRight_111 : decode cX6_isCabinRight 111 = .ok (.iload_n 2, 1) := by decide +kernel
theorem dX6_isCabinRight_112 : decode cX6_isCabinRight 112 = .ok (.if_icmp .ne 41, 3) := by decide +kernel
theorem dX6_isCabinRight_115 : decode cX6_isCabinRight 115 = .ok (.aload_n 0, 1) := by decide +kernel
theorem dX6_isCabinRight_116 : decode cX6_isCabinRight 116 = .ok (.iload 5, 2) := by decide +kernel
theorem dX6_isCabinRight_118 : decode cX6_isCabinRight 118 = .ok (.iconst 4, 1) := by decide +kernel
theorem dX6_isCabinRight_119 : decode cX6_isCabinRight 119 = .ok (.invokevirtual 115, 3) := by decide +kernel
theorem dX6_isCabinRight_122 : decode cX6_isCabinRight 122 = .ok (.iconst 3, 1) := by decide +kernel
theorem dX6_isCabinRight_123 : decode cX6_isCabinRight 123 = .ok (.if_icmp .eq 15, 3) := by decide +kernel
theorem dX6_isCabinRight_126 : decode cX6_isCabinRight 126 = .ok (.aload_n 0, 1) := by decide +kernel
theorem dX6_isCabinRight_127 : decode cX6_isCabinRight 127 = .ok (.iload 5, 2) := by decide +kernel
theorem dX6_isCabinRight_129 : decode cX6_isCabinRight 129 = .ok (.iconst 4, 1) := by decide +kernel
theorem dX6_isCabinRight_130 : decode cX6_isCabinRight 130 = .ok (.invokevirtual 115, 3) := by decide +kernel
theorem dX6_isCabinRight_133 : decode cX6_isCabinRight 133 = .ok (.bipush 6, 2) := by decide +kernel
theorem dX6_isCabinRight_135 : decode cX6_isCabinRight 135 = .ok (.if_icmp .ne 18, 3) := by decide +kernel
theorem dX6_isCabinRight_138 : decode cX6_isCabinRight 138 = .ok (.aload_n 0, 1) := by decide +kernel
theorem dX6_isCabinRight_139 : decode cX6_isCabinRight 139 = .ok (.iload 5, 2) := by decide +kernel
theorem dX6_isCabinRight_141 : decode cX6_isCabinRight 141 = .ok (.bipush 9, 2) := by decide +kernel
theorem dX6_isCabinRight_143 : decode cX6_isCabinRight 143 = .ok (.invokevirtual 115, 3) := by decide +kernel
theorem dX6_isCabinRight_146 : decode cX6_isCabinRight 146 = .ok (.iload 4, 2) := by decide +kernel
theorem dX6_isCabinRight_148 : decode cX6_isCabinRight 148 = .ok (.if_icmp .ne 5, 3) := by decide +kernel
theorem dX6_isCabinRight_151 : decode cX6_isCabinRight 151 = .ok (.iconst 0, 1) := by decide +kernel
theorem dX6_isCabinRight_152 : decode cX6_isCabinRight 152 = .ok (.ireturn, 1) := by decide +kernel
theorem dX6_isCabinRight_153 : decode cX6_isCabinRight 153 = .ok (.iinc 5 1, 3) := by decide +kernel
theorem dX6_isCabinRight_156 : decode cX6_isCabinRight 156 = .ok (.goto (-67), 3) := by decide +kernel
theorem dX6_isCabinRight_159 : decode cX6_isCabinRight 159 = .ok (.iconst 1, 1) := by decide +kernel
theorem dX6_isCabinRight_160 : decode cX6_isCabinRight 160 = .ok (.ireturn, 1) := by decide +kernel
theorem dJ9_abs_0f7a4_0 : decode cJ9_abs_0f7a4 0 = .ok (.iload_n 0, 1) := by decide +kernel
theorem dJ9_abs_0f7a4_1 : decode cJ9_abs_0f7a4 1 = .ok (.ifCond .ge 8, 3) := by decide +kernel
theorem dJ9_abs_0f7a4_4 : decode cJ9_abs_0f7a4 4 = .ok (.iload_n 0, 1) := by decide +kernel
theorem dJ9_abs_0f7a4_5 : decode cJ9_abs_0f7a4 5 = .ok (.ineg, 1) := by decide +kernel
theorem dJ9_abs_0f7a4_6 : decode cJ9_abs_0f7a4 6 = .ok (.goto 4, 3) := by decide +kernel
theorem dJ9_abs_0f7a4_9 : decode cJ9_abs_0f7a4 9 = .ok (.iload_n 0, 1) := by decide +kernel
theorem dJ9_abs_0f7a4_10 : decode cJ9_abs_0f7a4 10 = .ok (.ireturn, 1) := by decide +kernel
theorem dJ9_max_7cf53_0 : decode cJ9_max_7cf53 0 = .ok (.iload_n 0, 1) := by decide +kernel
theorem dJ9_max_7cf53_1 : decode cJ9_max_7cf53 1 = .ok (.iload_n 1, 1) := by decide +kernel
theorem dJ9_max_7cf53_2 : decode cJ9_max_7cf53 2 = .ok (.if_icmp .lt 7, 3) := by decide +kernel
theorem dJ9_max_7cf53_5 : decode cJ9_max_7cf53 5 = .ok (.iload_n 0, 1) := by decide +kernel
theorem dJ9_max_7cf53_6 : decode cJ9_max_7cf53 6 = .ok (.goto 4, 3) := by decide +kernel
theorem dJ9_max_7cf53_9 : decode cJ9_max_7cf53 9 = .ok (.iload_n 1, 1) := by decide +kernel
theorem dJ9_max_7cf53_10 : decode cJ9_max_7cf53 10 = .ok (.ireturn, 1) := by decide +kernel
theorem dJ9_min_7cf53_0 : decode cJ9_min_7cf53 0 = .ok (.iload_n 0, 1) := by decide +kernel
theorem dJ9_min_7cf53_1 : decode cJ9_min_7cf53 1 = .ok (.iload_n 1, 1) := by decide +kernel
theorem dJ9_min_7cf53_2 : decode cJ9_min_7cf53 2 = .ok (.if_icmp .gt 7, 3) := by decide +kernel
theorem dJ9_min_7cf53_5 : decode cJ9_min_7cf53 5 = .ok (.iload_n 0, 1) := by decide +kernel
theorem dJ9_min_7cf53_6 : decode cJ9_min_7cf53 6 = .ok (.goto 4, 3) := by decide +kernel
theorem dJ9_min_7cf53_9 : decode cJ9_min_7cf53 9 = .ok (.iload_n 1, 1) := by decide +kernel
theorem dJ9_min_7cf53_10 : decode cJ9_min_7cf53 10 = .ok (.ireturn, 1) := by decide +kernel
set_option maxRecDepth 20000 in
theorem ggL_law_X5_init : GoodIn wsL_law wsX5_init := goodIn_r _ [8, 9, 10, 11, 12, 13, 14, 15, 16, 17, 18, 19, 20, 21, 22, 23, 610, 611, 612, 613, 614, 615, 616, 617, 618, 619, 620, 621] (by decide +kernel) (by decide +kernel)
set_option maxRecDepth 20000 in
theorem gL_law_X5_init : GoodIn wsL_law (wsX5_init) := ggL_law_X5_init
set_option maxRecDepth 20000 in
theorem ggL_law_X6_init : GoodIn wsL_law wsX6_init := goodIn_r _ [26, 27, 10, 11, 20, 28, 29, 30, 31, 32, 33, 34, 35, 36, 37, 38, 39, 40, 41, 42, 43, 44, 45, 46, 47, 48, 49, 622, 623, 624, 625, 626, 627, 628, 629, 630, 631, 632, 633, 634, 635, 636, 637, 638, 639, 640, 641, 642, 643, 644, 645, 646, 647, 648, 649, 650, 651, 652] (by decide +kernel) (by decide +kernel)
set_option maxRecDepth 20000 in
theorem gL_law_X6_init : GoodIn wsL_law (wsX6_init) := ggL_law_X6_init
set_option maxRecDepth 20000 in
theorem ggL_law_X5_ship : GoodIn wsL_law wsX5_ship := goodIn_r _ [53, 54, 13, 12, 55, 56, 57, 58, 2, 59, 60, 61, 62, 10, 11, 63, 64, 65, 66, 67, 68, 69, 610, 611, 612, 613, 614, 615, 616, 617, 618, 619, 620, 621, 653, 654, 655, 656, 657, 658, 659, 660] (by decide +kernel) (by decide +kernel)
set_option maxRecDepth 20000 in
theorem gL_law_X5_ship : GoodIn wsL_law (wsV RL 13 RX5 yX5_ship wsX5_ship) := goodIn_app (goodIn_of _ (by decide +kernel)) ggL_law_X5_ship
set_option maxRecDepth 20000 in
theorem ggL_law_X6_ship : GoodIn wsL_law wsX6_ship := goodIn_r _ [73, 74, 28, 29, 30, 32, 75, 76, 5, 77, 622, 623, 624, 625, 626, 627, 628, 629, 630, 631, 632, 633, 634, 635, 636, 637, 638, 639, 640, 641, 642, 643, 644, 645, 646, 647, 648, 649, 650, 651, 652] (by decide +kernel) (by decide +kernel)
set_option maxRecDepth 20000 in
theorem gL_law_X6_ship : GoodIn wsL_law (wsV RL 17 RX6 yX6_ship wsX6_ship) := goodIn_app (goodIn_of _ (by decide +kernel)) ggL_law_X6_ship
set_option maxRecDepth 20000 in
theorem ggL_law_X5_cabin : GoodIn wsL_law wsX5_cabin := goodIn_r _ [81, 82, 15, 14, 83, 84, 85, 86, 87, 2, 88, 54, 13, 57, 58, 59, 89, 90, 91, 10, 11, 92, 93, 610, 611, 612, 613, 614, 615, 616, 617, 618, 619, 620, 621, 661, 662, 663, 653, 654, 655, 656, 657, 658, 659, 660] (by decide +kernel) (by decide +kernel)
set_option maxRecDepth 20000 in
theorem gL_law_X5_cabin : GoodIn wsL_law (wsV RL 18 RX5 yX5_cabin wsX5_cabin) := goodIn_app (goodIn_of _ (by decide +kernel)) ggL_law_X5_cabin
set_option maxRecDepth 20000 in
theorem ggL_law_X6_cabin : GoodIn wsL_law wsX6_cabin := goodIn_r _ [97, 98, 33, 34, 99, 100, 101, 5, 102, 74, 75, 76, 77, 622, 623, 624, 625, 626, 627, 628, 629, 630, 631, 632, 633, 634, 635, 636, 637, 638, 639, 640, 641, 642, 643, 644, 645, 646, 647, 648, 649, 650, 651, 652] (by decide +kernel) (by decide +kernel)
set_option maxRecDepth 20000 in
theorem gL_law_X6_cabin : GoodIn wsL_law (wsV RL 22 RX6 yX6_cabin wsX6_cabin) := goodIn_app (goodIn_of _ (by decide +kernel)) ggL_law_X6_cabin
set_option maxRecDepth 20000 in
theorem ggL_law_X5_sailing : GoodIn wsL_law wsX5_sailing := goodIn_r _ [106, 107, 17, 108, 16, 109, 110, 85, 86, 87, 2, 88, 54, 13, 57, 58, 59, 111, 112, 113, 114, 115, 116, 117, 118, 119, 120, 121, 10, 11, 122, 123, 124, 125, 126, 127, 610, 611, 612, 613, 614, 615, 616, 617, 618, 619, 620, 621, 664, 665, 666, 667, 668, 669, 670, 671, 672] (by decide +kernel) (by decide +kernel)
set_option maxRecDepth 20000 in
theorem gL_law_X5_sailing : GoodIn wsL_law (wsV RL 23 RX5 yX5_sailing wsX5_sailing) := goodIn_app (goodIn_of _ (by decide +kernel)) ggL_law_X5_sailing
set_option maxRecDepth 20000 in
theorem ggL_law_X6_sailing : GoodIn wsL_law wsX6_sailing := goodIn_r _ [131, 132, 133, 35, 38, 36, 134, 116, 117, 118, 37, 40, 41, 99, 100, 101, 5, 102, 74, 75, 76, 77, 622, 623, 624, 625, 626, 627, 628, 629, 630, 631, 632, 633, 634, 635, 636, 637, 638, 639, 640, 641, 642, 643, 644, 645, 646, 647, 648, 649, 650, 651, 652] (by decide +kernel) (by decide +kernel)
set_option maxRecDepth 20000 in
theorem gL_law_X6_sailing : GoodIn wsL_law (wsV RL 27 RX6 yX6_sailing wsX6_sailing) := goodIn_app (goodIn_of _ (by decide +kernel)) ggL_law_X6_sailing
set_option maxRecDepth 20000 in
theorem ggL_law_X5_book : GoodIn wsL_law wsX5_book := goodIn_r _ [138, 139, 19, 18, 140, 141, 142, 143, 144, 2, 145, 107, 17, 57, 58, 59, 146, 110, 147, 148, 123, 149, 150, 151, 152, 122, 153, 154, 155, 156, 157, 158, 10, 11, 159, 160, 161, 162, 163, 164, 165, 166, 167, 168, 169, 170, 610, 611, 612, 613, 614, 615, 616, 617, 618, 619, 620, 621, 664, 665, 666, 667, 668, 669, 670, 671, 672, 653, 654, 655, 656, 657, 658, 659, 660, 673, 674, 675, 676, 677, 678, 679, 680, 681, 682, 683, 684, 685, 686, 687, 688] (by decide +kernel) (by decide +kernel)
set_option maxRecDepth 20000 in
theorem gL_law_X5_book : GoodIn wsL_law (wsV RL 28 RX5 yX5_book wsX5_book) := goodIn_app (goodIn_of _ (by decide +kernel)) ggL_law_X5_book
set_option maxRecDepth 20000 in
theorem ggL_law_X6_book : GoodIn wsL_law wsX6_book := goodIn_r _ [174, 40, 30, 35, 175, 37, 176, 177, 178, 5, 179, 133, 75, 76, 77, 180, 181, 182, 183, 38, 184, 185, 186, 187, 44, 622, 623, 624, 625, 626, 627, 628, 629, 630, 631, 632, 633, 634, 635, 636, 637, 638, 639, 640, 641, 642, 643, 644, 645, 646, 647, 648, 649, 650, 651, 652] (by decide +kernel) (by decide +kernel)
set_option maxRecDepth 20000 in
theorem gL_law_X6_book : GoodIn wsL_law (wsV RL 32 RX6 yX6_book wsX6_book) := goodIn_app (goodIn_of _ (by decide +kernel)) ggL_law_X6_book
set_option maxRecDepth 20000 in
theorem ggL_law_X5_arrive : GoodIn wsL_law wsX5_arrive := goodIn_r _ [191, 192, 193, 194, 195, 2, 196, 139, 19, 57, 58, 59, 150, 110, 151, 152, 122, 673, 674, 675, 676, 677, 678, 679, 680, 681, 682, 683, 684, 685, 686, 687, 688, 610, 611, 612, 613, 614, 615, 616, 617, 618, 619, 620, 621, 664, 665, 666, 667, 668, 669, 670, 671, 672] (by decide +kernel) (by decide +kernel)
set_option maxRecDepth 20000 in
theorem gL_law_X5_arrive : GoodIn wsL_law (wsV RL 33 RX5 yX5_arrive wsX5_arrive) := goodIn_app (goodIn_of _ (by decide +kernel)) ggL_law_X5_arrive
set_option maxRecDepth 20000 in
theorem ggL_law_X6_arrive : GoodIn wsL_law wsX6_arrive := goodIn_r _ [200, 201, 202, 203, 204, 5, 205, 175, 206, 207, 208, 209, 44, 75, 76, 77, 180, 181, 182, 183, 38, 184, 185, 186, 187, 622, 623, 624, 625, 626, 627, 628, 629, 630, 631, 632, 633, 634, 635, 636, 637, 638, 639, 640, 641, 642, 643, 644, 645, 646, 647, 648, 649, 650, 651, 652] (by decide +kernel) (by decide +kernel)
set_option maxRecDepth 20000 in
theorem gL_law_X6_arrive : GoodIn wsL_law (wsV RL 37 RX6 yX6_arrive wsX6_arrive) := goodIn_app (goodIn_of _ (by decide +kernel)) ggL_law_X6_arrive
set_option maxRecDepth 20000 in
theorem ggL_law_X5_open : GoodIn wsL_law wsX5_open := goodIn_r _ [213, 142, 143, 144, 2, 145, 107, 17, 57, 58, 59, 214, 215, 216, 217, 664, 665, 666, 667, 668, 669, 670, 671, 672, 610, 611, 612, 613, 614, 615, 616, 617, 618, 619, 620, 621] (by decide +kernel) (by decide +kernel)
set_option maxRecDepth 20000 in
theorem gL_law_X5_open : GoodIn wsL_law (wsV RL 38 RX5 yX5_open wsX5_open) := goodIn_app (goodIn_of _ (by decide +kernel)) ggL_law_X5_open
set_option maxRecDepth 20000 in
theorem ggL_law_X6_open : GoodIn wsL_law wsX6_open := goodIn_r _ [221, 38, 35, 176, 177, 178, 5, 179, 133, 222, 223, 224, 225, 622, 623, 624, 625, 626, 627, 628, 629, 630, 631, 632, 633, 634, 635, 636, 637, 638, 639, 640, 641, 642, 643, 644, 645, 646, 647, 648, 649, 650, 651, 652] (by decide +kernel) (by decide +kernel)
set_option maxRecDepth 20000 in
theorem gL_law_X6_open : GoodIn wsL_law (wsV RL 42 RX6 yX6_open wsX6_open) := goodIn_app (goodIn_of _ (by decide +kernel)) ggL_law_X6_open
set_option maxRecDepth 20000 in
theorem ggL_law_X5_recall : GoodIn wsL_law wsX5_recall := goodIn_r _ [229, 142, 143, 144, 2, 145, 107, 17, 57, 58, 59, 230, 231, 232, 233, 234, 235, 236, 237, 139, 19, 238, 239, 240, 241, 242, 243, 244, 245, 664, 665, 666, 667, 668, 669, 670, 671, 672, 610, 611, 612, 613, 614, 615, 616, 617, 618, 619, 620, 621, 673, 674, 675, 676, 677, 678, 679, 680, 681, 682, 683, 684, 685, 686, 687, 688] (by decide +kernel) (by decide +kernel)
set_option maxRecDepth 20000 in
theorem gL_law_X5_recall : GoodIn wsL_law (wsV RL 43 RX5 yX5_recall wsX5_recall) := goodIn_app (goodIn_of _ (by decide +kernel)) ggL_law_X5_recall
set_option maxRecDepth 20000 in
theorem ggL_law_X6_recall : GoodIn wsL_law wsX6_recall := goodIn_r _ [249, 38, 40, 176, 177, 178, 5, 179, 133, 75, 76, 77, 250, 251, 252, 253, 43, 41, 254, 255, 256, 257, 258, 259, 260, 261, 262, 175, 263, 264, 265, 266, 45, 267, 268, 269, 270, 206, 207, 208, 209, 44, 271, 272, 273, 274, 275, 276, 277, 278, 36, 622, 623, 624, 625, 626, 627, 628, 629, 630, 631, 632, 633, 634, 635, 636, 637, 638, 639, 640, 641, 642, 643, 644, 645, 646, 647, 648, 649, 650, 651, 652] (by decide +kernel) (by decide +kernel)
set_option maxRecDepth 20000 in
theorem gL_law_X6_recall : GoodIn wsL_law (wsV RL 46 RX6 yX6_recall wsX6_recall) := goodIn_app (goodIn_of _ (by decide +kernel)) ggL_law_X6_recall
set_option maxRecDepth 20000 in
theorem ggL_law_X5_settle : GoodIn wsL_law wsX5_settle := goodIn_r _ [282, 57, 58, 2, 59, 283, 284, 285, 286, 107, 17, 234, 235, 236, 237, 139, 19, 287, 288, 289, 290, 238, 239, 240, 241, 291, 292, 293, 294, 295, 56, 296, 297, 298, 299, 300, 301, 302, 303, 304, 305, 306, 69, 65, 307, 308, 309, 310, 64, 311, 312, 313, 314, 315, 316, 317, 318, 82, 15, 319, 320, 321, 322, 323, 21, 22, 23, 242, 243, 244, 245, 324, 325, 326, 327, 146, 110, 147, 148, 123, 149, 150, 151, 152, 122, 328, 329, 330, 331, 332, 333, 334, 335, 336, 337, 338, 339, 340, 341, 342, 343, 344, 345, 346, 347, 348, 141, 349, 350, 168, 165, 351, 352, 353, 354, 160, 166, 355, 356, 357, 358, 359, 360, 361, 362, 363, 364, 365, 66, 366, 367, 368, 369, 67, 370, 371, 372, 373, 374, 375, 376, 377, 378, 379, 380, 381, 382, 383, 384, 385, 230, 231, 232, 233, 664, 665, 666, 667, 668, 669, 670, 671, 672, 610, 611, 612, 613, 614, 615, 616, 617, 618, 619, 620, 621, 673, 674, 675, 676, 677, 678, 679, 680, 681, 682, 683, 684, 685, 686, 687, 688, 653, 654, 655, 656, 657, 658, 659, 660, 661, 662, 663] (by decide +kernel) (by decide +kernel)
set_option maxRecDepth 20000 in
theorem gL_law_X5_settle : GoodIn wsL_law (wsV RL 47 RX5 yX5_settle wsX5_settle) := goodIn_app (goodIn_of _ (by decide +kernel)) ggL_law_X5_settle
set_option maxRecDepth 20000 in
theorem ggL_law_X6_settle : GoodIn wsL_law wsX6_settle := goodIn_r _ [389, 133, 75, 76, 5, 77, 390, 391, 392, 393, 262, 41, 42, 40, 258, 259, 260, 261, 38, 43, 175, 263, 264, 265, 266, 45, 267, 268, 269, 270, 206, 207, 208, 209, 44, 271, 272, 273, 274, 275, 276, 277, 278, 36, 184, 185, 186, 187, 394, 395, 396, 397, 398, 46, 47, 48, 39, 399, 400, 401, 402, 403, 404, 405, 406, 98, 33, 35, 34, 407, 408, 409, 410, 28, 29, 411, 412, 413, 414, 415, 416, 417, 32, 418, 419, 420, 421, 30, 49, 422, 423, 424, 117, 425, 426, 427, 428, 429, 430, 431, 432, 433, 37, 180, 181, 182, 183, 250, 251, 252, 253, 254, 255, 256, 257, 622, 623, 624, 625, 626, 627, 628, 629, 630, 631, 632, 633, 634, 635, 636, 637, 638, 639, 640, 641, 642, 643, 644, 645, 646, 647, 648, 649, 650, 651, 652] (by decide +kernel) (by decide +kernel)
set_option maxRecDepth 20000 in
theorem gL_law_X6_settle : GoodIn wsL_law (wsV RL 51 RX6 yX6_settle wsX6_settle) := goodIn_app (goodIn_of _ (by decide +kernel)) ggL_law_X6_settle
set_option maxRecDepth 20000 in
theorem ggL_law_X5_depart : GoodIn wsL_law wsX5_depart := goodIn_r _ [437, 139, 19, 142, 143, 144, 2, 145, 107, 17, 57, 58, 59, 234, 235, 236, 237, 438, 439, 440, 441, 295, 56, 296, 297, 298, 299, 300, 301, 302, 303, 304, 305, 306, 69, 65, 307, 308, 309, 310, 64, 311, 312, 313, 314, 315, 316, 317, 318, 82, 15, 664, 665, 666, 667, 668, 669, 670, 671, 672, 610, 611, 612, 613, 614, 615, 616, 617, 618, 619, 620, 621, 673, 674, 675, 676, 677, 678, 679, 680, 681, 682, 683, 684, 685, 686, 687, 688, 653, 654, 655, 656, 657, 658, 659, 660, 661, 662, 663] (by decide +kernel) (by decide +kernel)
set_option maxRecDepth 20000 in
theorem gL_law_X5_depart : GoodIn wsL_law (wsV RL 52 RX5 yX5_depart wsX5_depart) := goodIn_app (goodIn_of _ (by decide +kernel)) ggL_law_X5_depart
set_option maxRecDepth 20000 in
theorem ggL_law_X6_depart : GoodIn wsL_law wsX6_depart := goodIn_r _ [445, 38, 40, 175, 176, 177, 178, 5, 179, 133, 254, 255, 256, 257, 258, 259, 260, 261, 262, 43, 41, 263, 264, 265, 266, 45, 267, 268, 269, 270, 206, 207, 208, 209, 44, 271, 272, 273, 274, 275, 276, 277, 278, 36, 426, 427, 428, 429, 184, 185, 186, 187, 622, 623, 624, 625, 626, 627, 628, 629, 630, 631, 632, 633, 634, 635, 636, 637, 638, 639, 640, 641, 642, 643, 644, 645, 646, 647, 648, 649, 650, 651, 652] (by decide +kernel) (by decide +kernel)
set_option maxRecDepth 20000 in
theorem gL_law_X6_depart : GoodIn wsL_law (wsV RL 55 RX6 yX6_depart wsX6_depart) := goodIn_app (goodIn_of _ (by decide +kernel)) ggL_law_X6_depart
set_option maxRecDepth 20000 in
theorem ggL_law_X5_off : GoodIn wsL_law wsX5_off := goodIn_r _ [449, 193, 194, 195, 2, 196, 139, 19, 57, 58, 59, 291, 292, 293, 294, 295, 56, 296, 297, 298, 299, 300, 301, 302, 303, 304, 305, 306, 69, 65, 307, 308, 309, 310, 64, 311, 312, 313, 314, 315, 316, 317, 318, 82, 15, 673, 674, 675, 676, 677, 678, 679, 680, 681, 682, 683, 684, 685, 686, 687, 688, 664, 665, 666, 667, 668, 669, 670, 671, 672, 610, 611, 612, 613, 614, 615, 616, 617, 618, 619, 620, 621, 653, 654, 655, 656, 657, 658, 659, 660, 661, 662, 663] (by decide +kernel) (by decide +kernel)
set_option maxRecDepth 20000 in
theorem gL_law_X5_off : GoodIn wsL_law (wsV RL 56 RX5 yX5_off wsX5_off) := goodIn_app (goodIn_of _ (by decide +kernel)) ggL_law_X5_off
set_option maxRecDepth 20000 in
theorem ggL_law_X6_off : GoodIn wsL_law wsX6_off := goodIn_r _ [453, 38, 40, 41, 175, 202, 203, 204, 5, 205, 206, 207, 208, 209, 44, 267, 268, 269, 270, 426, 427, 428, 429, 184, 185, 186, 187, 622, 623, 624, 625, 626, 627, 628, 629, 630, 631, 632, 633, 634, 635, 636, 637, 638, 639, 640, 641, 642, 643, 644, 645, 646, 647, 648, 649, 650, 651, 652] (by decide +kernel) (by decide +kernel)
set_option maxRecDepth 20000 in
theorem gL_law_X6_off : GoodIn wsL_law (wsV RL 59 RX6 yX6_off wsX6_off) := goodIn_app (goodIn_of _ (by decide +kernel)) ggL_law_X6_off
set_option maxRecDepth 20000 in
theorem ggL_law_X5_shipOf : GoodIn wsL_law wsX5_shipOf := goodIn_r _ [457, 85, 86, 87, 2, 88, 54, 13, 57, 58, 59, 653, 654, 655, 656, 657, 658, 659, 660, 610, 611, 612, 613, 614, 615, 616, 617, 618, 619, 620, 621] (by decide +kernel) (by decide +kernel)
set_option maxRecDepth 20000 in
theorem gL_law_X5_shipOf : GoodIn wsL_law (wsV RL 60 RX5 yX5_shipOf wsX5_shipOf) := goodIn_app (goodIn_of _ (by decide +kernel)) ggL_law_X5_shipOf
set_option maxRecDepth 20000 in
theorem ggL_law_X6_shipOf : GoodIn wsL_law wsX6_shipOf := goodIn_r _ [461, 28, 29, 30, 32, 98, 33, 175, 99, 100, 101, 5, 102, 74, 222, 223, 224, 225, 133, 35, 38, 267, 268, 269, 270, 206, 207, 208, 209, 44, 622, 623, 624, 625, 626, 627, 628, 629, 630, 631, 632, 633, 634, 635, 636, 637, 638, 639, 640, 641, 642, 643, 644, 645, 646, 647, 648, 649, 650, 651, 652] (by decide +kernel) (by decide +kernel)
end
section
set_option maxRecDepth 20000 in
theorem gL_law_X6_shipOf : GoodIn wsL_law (wsV RL 63 RX6 yX6_shipOf wsX6_shipOf) := goodIn_app (goodIn_of _ (by decide +kernel)) ggL_law_X6_shipOf
set_option maxRecDepth 20000 in
theorem ggL_law_X5_sailingOf : GoodIn wsL_law wsX5_sailingOf := goodIn_r _ [465, 142, 143, 144, 2, 145, 107, 17, 57, 58, 59, 466, 467, 468, 469, 139, 19, 664, 665, 666, 667, 668, 669, 670, 671, 672, 653, 654, 655, 656, 657, 658, 659, 660, 610, 611, 612, 613, 614, 615, 616, 617, 618, 619, 620, 621, 673, 674, 675, 676, 677, 678, 679, 680, 681, 682, 683, 684, 685, 686, 687, 688] (by decide +kernel) (by decide +kernel)
set_option maxRecDepth 20000 in
theorem gL_law_X5_sailingOf : GoodIn wsL_law (wsV RL 64 RX5 yX5_sailingOf wsX5_sailingOf) := goodIn_app (goodIn_of _ (by decide +kernel)) ggL_law_X5_sailingOf
set_option maxRecDepth 20000 in
theorem ggL_law_X6_sailingOf : GoodIn wsL_law wsX6_sailingOf := goodIn_r _ [473, 35, 36, 37, 38, 39, 40, 175, 176, 177, 178, 5, 179, 133, 206, 207, 208, 209, 44, 622, 623, 624, 625, 626, 627, 628, 629, 630, 631, 632, 633, 634, 635, 636, 637, 638, 639, 640, 641, 642, 643, 644, 645, 646, 647, 648, 649, 650, 651, 652] (by decide +kernel) (by decide +kernel)
set_option maxRecDepth 20000 in
theorem gL_law_X6_sailingOf : GoodIn wsL_law (wsV RL 67 RX6 yX6_sailingOf wsX6_sailingOf) := goodIn_app (goodIn_of _ (by decide +kernel)) ggL_law_X6_sailingOf
set_option maxRecDepth 20000 in
theorem ggL_law_X5_ticketOf : GoodIn wsL_law wsX5_ticketOf := goodIn_r _ [477, 193, 194, 195, 2, 196, 139, 19, 57, 58, 59, 478, 141, 479, 480, 166, 167, 168, 169, 159, 160, 161, 162, 163, 164, 170, 481, 482, 610, 611, 612, 613, 614, 615, 616, 617, 618, 619, 620, 621, 673, 674, 675, 676, 677, 678, 679, 680, 681, 682, 683, 684, 685, 686, 687, 688, 664, 665, 666, 667, 668, 669, 670, 671, 672] (by decide +kernel) (by decide +kernel)
set_option maxRecDepth 20000 in
theorem gL_law_X5_ticketOf : GoodIn wsL_law (wsV RL 68 RX5 yX5_ticketOf wsX5_ticketOf) := goodIn_app (goodIn_of _ (by decide +kernel)) ggL_law_X5_ticketOf
set_option maxRecDepth 20000 in
theorem ggL_law_X6_ticketOf : GoodIn wsL_law wsX6_ticketOf := goodIn_r _ [486, 202, 203, 204, 5, 205, 175, 75, 76, 77, 206, 207, 208, 209, 44, 622, 623, 624, 625, 626, 627, 628, 629, 630, 631, 632, 633, 634, 635, 636, 637, 638, 639, 640, 641, 642, 643, 644, 645, 646, 647, 648, 649, 650, 651, 652] (by decide +kernel) (by decide +kernel)
set_option maxRecDepth 20000 in
theorem gL_law_X6_ticketOf : GoodIn wsL_law (wsV RL 71 RX6 yX6_ticketOf wsX6_ticketOf) := goodIn_app (goodIn_of _ (by decide +kernel)) ggL_law_X6_ticketOf
set_option maxRecDepth 20000 in
theorem ggL_law_X5_at : GoodIn wsL_law wsX5_at := goodIn_r _ [490, 85, 86, 87, 2, 88, 54, 13, 57, 58, 59, 304, 56, 305, 306, 69, 65, 307, 308, 309, 310, 64, 673, 674, 675, 676, 677, 678, 679, 680, 681, 682, 683, 684, 685, 686, 687, 688, 610, 611, 612, 613, 614, 615, 616, 617, 618, 619, 620, 621, 653, 654, 655, 656, 657, 658, 659, 660] (by decide +kernel) (by decide +kernel)
set_option maxRecDepth 20000 in
theorem gL_law_X5_at : GoodIn wsL_law (wsV RL 72 RX5 yX5_at wsX5_at) := goodIn_app (goodIn_of _ (by decide +kernel)) ggL_law_X5_at
set_option maxRecDepth 20000 in
theorem ggL_law_X6_at : GoodIn wsL_law wsX6_at := goodIn_r _ [494, 30, 495, 496, 497, 5, 498, 28, 29, 99, 100, 101, 102, 74, 75, 76, 77, 222, 223, 224, 225, 133, 35, 38, 499, 500, 501, 502, 175, 267, 268, 269, 270, 206, 207, 208, 209, 44, 622, 623, 624, 625, 626, 627, 628, 629, 630, 631, 632, 633, 634, 635, 636, 637, 638, 639, 640, 641, 642, 643, 644, 645, 646, 647, 648, 649, 650, 651, 652] (by decide +kernel) (by decide +kernel)
set_option maxRecDepth 20000 in
theorem gL_law_X6_at : GoodIn wsL_law (wsV RL 75 RX6 yX6_at wsX6_at) := goodIn_app (goodIn_of _ (by decide +kernel)) ggL_law_X6_at
set_option maxRecDepth 20000 in
theorem ggL_law_X5_lane : GoodIn wsL_law wsX5_lane := goodIn_r _ [506, 85, 86, 87, 2, 88, 54, 13, 57, 58, 59, 308, 56, 309, 310, 64, 65, 363, 364, 365, 66, 303, 304, 305, 306, 69, 307, 507, 508, 509, 510, 424, 117, 425, 367, 368, 369, 67, 370, 371, 372, 373, 374, 375, 376, 377, 610, 611, 612, 613, 614, 615, 616, 617, 618, 619, 620, 621, 653, 654, 655, 656, 657, 658, 659, 660, 673, 674, 675, 676, 677, 678, 679, 680, 681, 682, 683, 684, 685, 686, 687, 688] (by decide +kernel) (by decide +kernel)
set_option maxRecDepth 20000 in
theorem gL_law_X5_lane : GoodIn wsL_law (wsV RL 76 RX5 yX5_lane wsX5_lane) := goodIn_app (goodIn_of _ (by decide +kernel)) ggL_law_X5_lane
set_option maxRecDepth 20000 in
theorem ggL_law_X6_lane : GoodIn wsL_law wsX6_lane := goodIn_r _ [514, 412, 422, 495, 496, 497, 5, 498, 28, 29, 99, 100, 101, 102, 74, 75, 76, 77, 222, 223, 224, 225, 133, 35, 38, 414, 415, 416, 417, 32, 175, 267, 268, 269, 270, 206, 207, 208, 209, 44, 418, 419, 420, 421, 30, 49, 411, 423, 424, 117, 425, 622, 623, 624, 625, 626, 627, 628, 629, 630, 631, 632, 633, 634, 635, 636, 637, 638, 639, 640, 641, 642, 643, 644, 645, 646, 647, 648, 649, 650, 651, 652] (by decide +kernel) (by decide +kernel)
set_option maxRecDepth 20000 in
theorem gL_law_X6_lane : GoodIn wsL_law (wsV RL 79 RX6 yX6_lane wsX6_lane) := goodIn_app (goodIn_of _ (by decide +kernel)) ggL_law_X6_lane
set_option maxRecDepth 20000 in
theorem ggL_law_X5_log : GoodIn wsL_law wsX5_log := goodIn_r _ [518, 323, 519, 520, 117, 521, 21, 22, 23, 57, 58, 2, 59, 610, 611, 612, 613, 614, 615, 616, 617, 618, 619, 620, 621] (by decide +kernel) (by decide +kernel)
set_option maxRecDepth 20000 in
theorem gL_law_X5_log : GoodIn wsL_law (wsV RL 80 RX5 yX5_log wsX5_log) := goodIn_app (goodIn_of _ (by decide +kernel)) ggL_law_X5_log
set_option maxRecDepth 20000 in
theorem ggL_law_X6_log : GoodIn wsL_law wsX6_log := goodIn_r _ [525, 398, 46, 47, 48, 622, 623, 624, 625, 626, 627, 628, 629, 630, 631, 632, 633, 634, 635, 636, 637, 638, 639, 640, 641, 642, 643, 644, 645, 646, 647, 648, 649, 650, 651, 652] (by decide +kernel) (by decide +kernel)
set_option maxRecDepth 20000 in
theorem gL_law_X6_log : GoodIn wsL_law (wsV RL 83 RX6 yX6_log wsX6_log) := goodIn_app (goodIn_of _ (by decide +kernel)) ggL_law_X6_log
set_option maxRecDepth 20000 in
theorem ggL_law_X5_count : GoodIn wsL_law wsX5_count := goodIn_r _ [529, 54, 82, 107, 139, 323, 610, 611, 612, 613, 614, 615, 616, 617, 618, 619, 620, 621] (by decide +kernel) (by decide +kernel)
set_option maxRecDepth 20000 in
theorem gL_law_X5_count : GoodIn wsL_law (wsV RL 84 RX5 yX5_count wsX5_count) := goodIn_app (goodIn_of _ (by decide +kernel)) ggL_law_X5_count
set_option maxRecDepth 20000 in
theorem ggL_law_X6_count : GoodIn wsL_law wsX6_count := goodIn_r _ [533, 74, 98, 133, 175, 398, 622, 623, 624, 625, 626, 627, 628, 629, 630, 631, 632, 633, 634, 635, 636, 637, 638, 639, 640, 641, 642, 643, 644, 645, 646, 647, 648, 649, 650, 651, 652] (by decide +kernel) (by decide +kernel)
set_option maxRecDepth 20000 in
theorem gL_law_X6_count : GoodIn wsL_law (wsV RL 87 RX6 yX6_count wsX6_count) := goodIn_app (goodIn_of _ (by decide +kernel)) ggL_law_X6_count
set_option maxRecDepth 20000 in
theorem ggL_law_X5_total : GoodIn wsL_law wsX5_total := goodIn_r _ [537, 139, 19, 142, 143, 144, 2, 145, 107, 17, 57, 58, 59, 538, 539, 540, 610, 611, 612, 613, 614, 615, 616, 617, 618, 619, 620, 621, 673, 674, 675, 676, 677, 678, 679, 680, 681, 682, 683, 684, 685, 686, 687, 688] (by decide +kernel) (by decide +kernel)
set_option maxRecDepth 20000 in
theorem gL_law_X5_total : GoodIn wsL_law (wsV RL 88 RX5 yX5_total wsX5_total) := goodIn_app (goodIn_of _ (by decide +kernel)) ggL_law_X5_total
set_option maxRecDepth 20000 in
theorem ggL_law_X6_total : GoodIn wsL_law wsX6_total := goodIn_r _ [544, 175, 176, 177, 178, 5, 179, 133, 75, 76, 77, 206, 207, 208, 209, 44, 622, 623, 624, 625, 626, 627, 628, 629, 630, 631, 632, 633, 634, 635, 636, 637, 638, 639, 640, 641, 642, 643, 644, 645, 646, 647, 648, 649, 650, 651, 652] (by decide +kernel) (by decide +kernel)
set_option maxRecDepth 20000 in
theorem gL_law_X6_total : GoodIn wsL_law (wsV RL 91 RX6 yX6_total wsX6_total) := goodIn_app (goodIn_of _ (by decide +kernel)) ggL_law_X6_total
set_option maxRecDepth 20000 in
theorem ggL_law_X5_kept : GoodIn wsL_law wsX5_kept := goodIn_r _ [548, 139, 19, 610, 611, 612, 613, 614, 615, 616, 617, 618, 619, 620, 621, 673, 674, 675, 676, 677, 678, 679, 680, 681, 682, 683, 684, 685, 686, 687, 688] (by decide +kernel) (by decide +kernel)
set_option maxRecDepth 20000 in
theorem gL_law_X5_kept : GoodIn wsL_law (wsV RL 92 RX5 yX5_kept wsX5_kept) := goodIn_app (goodIn_of _ (by decide +kernel)) ggL_law_X5_kept
set_option maxRecDepth 20000 in
theorem ggL_law_X6_kept : GoodIn wsL_law wsX6_kept := goodIn_r _ [552, 175, 206, 207, 208, 5, 209, 44, 622, 623, 624, 625, 626, 627, 628, 629, 630, 631, 632, 633, 634, 635, 636, 637, 638, 639, 640, 641, 642, 643, 644, 645, 646, 647, 648, 649, 650, 651, 652] (by decide +kernel) (by decide +kernel)
set_option maxRecDepth 20000 in
theorem gL_law_X6_kept : GoodIn wsL_law (wsV RL 96 RX6 yX6_kept wsX6_kept) := goodIn_app (goodIn_of _ (by decide +kernel)) ggL_law_X6_kept
set_option maxRecDepth 20000 in
theorem ggL_law_X5_audit : GoodIn wsL_law wsX5_audit := goodIn_r _ [556, 557, 558, 559, 560, 561, 562, 10, 11, 563, 564, 565, 566, 567, 568, 2, 569, 139, 19, 570, 571, 572, 573, 574, 575, 576, 478, 141, 479, 480, 166, 167, 168, 169, 159, 160, 161, 162, 163, 164, 170, 481, 482, 308, 56, 309, 310, 64, 65, 57, 58, 59, 577, 578, 579, 580, 581, 582, 583, 82, 15, 584, 585, 586, 587, 588, 589, 590, 192, 591, 592, 593, 193, 194, 195, 196, 689, 690, 691, 610, 611, 612, 613, 614, 615, 616, 617, 618, 619, 620, 621, 673, 674, 675, 676, 677, 678, 679, 680, 681, 682, 683, 684, 685, 686, 687, 688, 664, 665, 666, 667, 668, 669, 670, 671, 672, 653, 654, 655, 656, 657, 658, 659, 660, 661, 662, 663] (by decide +kernel) (by decide +kernel)
set_option maxRecDepth 20000 in
theorem gL_law_X5_audit : GoodIn wsL_law (wsV RL 97 RX5 yX5_audit wsX5_audit) := goodIn_app (goodIn_of _ (by decide +kernel)) ggL_law_X5_audit
set_option maxRecDepth 20000 in
theorem ggL_law_X6_audit : GoodIn wsL_law wsX6_audit := goodIn_r _ [597, 175, 75, 76, 5, 77, 202, 203, 204, 205, 206, 207, 208, 209, 44, 184, 185, 186, 187, 598, 599, 600, 601, 201, 602, 603, 604, 605, 35, 28, 29, 30, 267, 268, 269, 270, 606, 607, 608, 609, 98, 33, 34, 622, 623, 624, 625, 626, 627, 628, 629, 630, 631, 632, 633, 634, 635, 636, 637, 638, 639, 640, 641, 642, 643, 644, 645, 646, 647, 648, 649, 650, 651, 652] (by decide +kernel) (by decide +kernel)
set_option maxRecDepth 20000 in
theorem gL_law_X6_audit : GoodIn wsL_law (wsV RL 100 RX6 yX6_audit wsX6_audit) := goodIn_app (goodIn_of _ (by decide +kernel)) ggL_law_X6_audit
theorem dL_law_0 : decode cL_law 0 = .ok (.new 7, 3) := by decide +kernel
theorem dL_law_3 : decode cL_law 3 = .ok (.dup, 1) := by decide +kernel
theorem dL_law_4 : decode cL_law 4 = .ok (.invokespecial 9, 3) := by decide +kernel
theorem dL_law_7 : decode cL_law 7 = .ok (.astore_n 1, 1) := by decide +kernel
theorem dL_law_8 : decode cL_law 8 = .ok (.new 10, 3) := by decide +kernel
theorem dL_law_11 : decode cL_law 11 = .ok (.dup, 1) := by decide +kernel
theorem dL_law_12 : decode cL_law 12 = .ok (.invokespecial 12, 3) := by decide +kernel
theorem dL_law_15 : decode cL_law 15 = .ok (.astore_n 2, 1) := by decide +kernel
theorem dL_law_16 : decode cL_law 16 = .ok (.iconst 0, 1) := by decide +kernel
theorem dL_law_17 : decode cL_law 17 = .ok (.istore_n 3, 1) := by decide +kernel
theorem dL_law_18 : decode cL_law 18 = .ok (.iload_n 3, 1) := by decide +kernel
theorem dL_law_19 : decode cL_law 19 = .ok (.aload_n 0, 1) := by decide +kernel
theorem dL_law_20 : decode cL_law 20 = .ok (.arraylength, 1) := by decide +kernel
theorem dL_law_21 : decode cL_law 21 = .ok (.iconst 5, 1) := by decide +kernel
theorem dL_law_22 : decode cL_law 22 = .ok (.isub, 1) := by decide +kernel
theorem dL_law_23 : decode cL_law 23 = .ok (.if_icmp .gt 818, 3) := by decide +kernel
theorem dL_law_26 : decode cL_law 26 = .ok (.aload_n 0, 1) := by decide +kernel
theorem dL_law_27 : decode cL_law 27 = .ok (.iload_n 3, 1) := by decide +kernel
theorem dL_law_28 : decode cL_law 28 = .ok (.iaload, 1) := by decide +kernel
theorem dL_law_29 : decode cL_law 29 = .ok (.bipush 31, 2) := by decide +kernel
theorem dL_law_31 : decode cL_law 31 = .ok (.iand, 1) := by decide +kernel
theorem dL_law_32 : decode cL_law 32 = .ok (.tableswitch 803 0 19 #[96, 165, 198, 241, 294, 327, 350, 383, 406, 429, 452, 485, 518, 551, 604, 657, 690, 713, 746, 760], 96) := by decide +kernel
theorem dL_law_128 : decode cL_law 128 = .ok (.aload_n 1, 1) := by decide +kernel
theorem dL_law_129 : decode cL_law 129 = .ok (.aload_n 0, 1) := by decide +kernel
theorem dL_law_130 : decode cL_law 130 = .ok (.iload_n 3, 1) := by decide +kernel
theorem dL_law_131 : decode cL_law 131 = .ok (.iconst 1, 1) := by decide +kernel
theorem dL_law_132 : decode cL_law 132 = .ok (.iadd, 1) := by decide +kernel
theorem dL_law_133 : decode cL_law 133 = .ok (.iaload, 1) := by decide +kernel
theorem dL_law_134 : decode cL_law 134 = .ok (.aload_n 0, 1) := by decide +kernel
theorem dL_law_135 : decode cL_law 135 = .ok (.iload_n 3, 1) := by decide +kernel
theorem dL_law_136 : decode cL_law 136 = .ok (.iconst 2, 1) := by decide +kernel
theorem dL_law_137 : decode cL_law 137 = .ok (.iadd, 1) := by decide +kernel
theorem dL_law_138 : decode cL_law 138 = .ok (.iaload, 1) := by decide +kernel
theorem dL_law_139 : decode cL_law 139 = .ok (.aload_n 0, 1) := by decide +kernel
theorem dL_law_140 : decode cL_law 140 = .ok (.iload_n 3, 1) := by decide +kernel
theorem dL_law_141 : decode cL_law 141 = .ok (.iconst 3, 1) := by decide +kernel
theorem dL_law_142 : decode cL_law 142 = .ok (.iadd, 1) := by decide +kernel
theorem dL_law_143 : decode cL_law 143 = .ok (.iaload, 1) := by decide +kernel
theorem dL_law_144 : decode cL_law 144 = .ok (.aload_n 0, 1) := by decide +kernel
theorem dL_law_145 : decode cL_law 145 = .ok (.iload_n 3, 1) := by decide +kernel
theorem dL_law_146 : decode cL_law 146 = .ok (.iconst 4, 1) := by decide +kernel
theorem dL_law_147 : decode cL_law 147 = .ok (.iadd, 1) := by decide +kernel
theorem dL_law_148 : decode cL_law 148 = .ok (.iaload, 1) := by decide +kernel
theorem dL_law_149 : decode cL_law 149 = .ok (.ifCond .eq 7, 3) := by decide +kernel
theorem dL_law_152 : decode cL_law 152 = .ok (.iconst 1, 1) := by decide +kernel
theorem dL_law_153 : decode cL_law 153 = .ok (.goto 4, 3) := by decide +kernel
theorem dL_law_156 : decode cL_law 156 = .ok (.iconst 0, 1) := by decide +kernel
theorem dL_law_157 : decode cL_law 157 = .ok (.invokevirtual 13, 3) := by decide +kernel
theorem dL_law_160 : decode cL_law 160 = .ok (.aload_n 2, 1) := by decide +kernel
theorem dL_law_161 : decode cL_law 161 = .ok (.aload_n 0, 1) := by decide +kernel
theorem dL_law_162 : decode cL_law 162 = .ok (.iload_n 3, 1) := by decide +kernel
theorem dL_law_163 : decode cL_law 163 = .ok (.iconst 1, 1) := by decide +kernel
theorem dL_law_164 : decode cL_law 164 = .ok (.iadd, 1) := by decide +kernel
theorem dL_law_165 : decode cL_law 165 = .ok (.iaload, 1) := by decide +kernel
theorem dL_law_166 : decode cL_law 166 = .ok (.aload_n 0, 1) := by decide +kernel
theorem dL_law_167 : decode cL_law 167 = .ok (.iload_n 3, 1) := by decide +kernel
theorem dL_law_168 : decode cL_law 168 = .ok (.iconst 2, 1) := by decide +kernel
theorem dL_law_169 : decode cL_law 169 = .ok (.iadd, 1) := by decide +kernel
theorem dL_law_170 : decode cL_law 170 = .ok (.iaload, 1) := by decide +kernel
theorem dL_law_171 : decode cL_law 171 = .ok (.aload_n 0, 1) := by decide +kernel
theorem dL_law_172 : decode cL_law 172 = .ok (.iload_n 3, 1) := by decide +kernel
theorem dL_law_173 : decode cL_law 173 = .ok (.iconst 3, 1) := by decide +kernel
theorem dL_law_174 : decode cL_law 174 = .ok (.iadd, 1) := by decide +kernel
theorem dL_law_175 : decode cL_law 175 = .ok (.iaload, 1) := by decide +kernel
theorem dL_law_176 : decode cL_law 176 = .ok (.aload_n 0, 1) := by decide +kernel
theorem dL_law_177 : decode cL_law 177 = .ok (.iload_n 3, 1) := by decide +kernel
theorem dL_law_178 : decode cL_law 178 = .ok (.iconst 4, 1) := by decide +kernel
theorem dL_law_179 : decode cL_law 179 = .ok (.iadd, 1) := by decide +kernel
theorem dL_law_180 : decode cL_law 180 = .ok (.iaload, 1) := by decide +kernel
theorem dL_law_181 : decode cL_law 181 = .ok (.ifCond .eq 7, 3) := by decide +kernel
theorem dL_law_184 : decode cL_law 184 = .ok (.iconst 1, 1) := by decide +kernel
theorem dL_law_185 : decode cL_law 185 = .ok (.goto 4, 3) := by decide +kernel
theorem dL_law_188 : decode cL_law 188 = .ok (.iconst 0, 1) := by decide +kernel
theorem dL_law_189 : decode cL_law 189 = .ok (.invokevirtual 17, 3) := by decide +kernel
theorem dL_law_192 : decode cL_law 192 = .ok (.if_icmp .eq 643, 3) := by decide +kernel
theorem dL_law_195 : decode cL_law 195 = .ok (.iconst 0, 1) := by decide +kernel
theorem dL_law_196 : decode cL_law 196 = .ok (.ireturn, 1) := by decide +kernel
theorem dL_law_197 : decode cL_law 197 = .ok (.aload_n 1, 1) := by decide +kernel
theorem dL_law_198 : decode cL_law 198 = .ok (.aload_n 0, 1) := by decide +kernel
theorem dL_law_199 : decode cL_law 199 = .ok (.iload_n 3, 1) := by decide +kernel
theorem dL_law_200 : decode cL_law 200 = .ok (.iconst 1, 1) := by decide +kernel
theorem dL_law_201 : decode cL_law 201 = .ok (.iadd, 1) := by decide +kernel
theorem dL_law_202 : decode cL_law 202 = .ok (.iaload, 1) := by decide +kernel
theorem dL_law_203 : decode cL_law 203 = .ok (.aload_n 0, 1) := by decide +kernel
theorem dL_law_204 : decode cL_law 204 = .ok (.iload_n 3, 1) := by decide +kernel
theorem dL_law_205 : decode cL_law 205 = .ok (.iconst 2, 1) := by decide +kernel
theorem dL_law_206 : decode cL_law 206 = .ok (.iadd, 1) := by decide +kernel
theorem dL_law_207 : decode cL_law 207 = .ok (.iaload, 1) := by decide +kernel
theorem dL_law_208 : decode cL_law 208 = .ok (.invokevirtual 18, 3) := by decide +kernel
theorem dL_law_211 : decode cL_law 211 = .ok (.aload_n 2, 1) := by decide +kernel
theorem dL_law_212 : decode cL_law 212 = .ok (.aload_n 0, 1) := by decide +kernel
theorem dL_law_213 : decode cL_law 213 = .ok (.iload_n 3, 1) := by decide +kernel
theorem dL_law_214 : decode cL_law 214 = .ok (.iconst 1, 1) := by decide +kernel
theorem dL_law_215 : decode cL_law 215 = .ok (.iadd, 1) := by decide +kernel
theorem dL_law_216 : decode cL_law 216 = .ok (.iaload, 1) := by decide +kernel
theorem dL_law_217 : decode cL_law 217 = .ok (.aload_n 0, 1) := by decide +kernel
theorem dL_law_218 : decode cL_law 218 = .ok (.iload_n 3, 1) := by decide +kernel
theorem dL_law_219 : decode cL_law 219 = .ok (.iconst 2, 1) := by decide +kernel
theorem dL_law_220 : decode cL_law 220 = .ok (.iadd, 1) := by decide +kernel
theorem dL_law_221 : decode cL_law 221 = .ok (.iaload, 1) := by decide +kernel
theorem dL_law_222 : decode cL_law 222 = .ok (.invokevirtual 22, 3) := by decide +kernel
theorem dL_law_225 : decode cL_law 225 = .ok (.if_icmp .eq 610, 3) := by decide +kernel
theorem dL_law_228 : decode cL_law 228 = .ok (.iconst 0, 1) := by decide +kernel
theorem dL_law_229 : decode cL_law 229 = .ok (.ireturn, 1) := by decide +kernel
theorem dL_law_230 : decode cL_law 230 = .ok (.aload_n 1, 1) := by decide +kernel
theorem dL_law_231 : decode cL_law 231 = .ok (.aload_n 0, 1) := by decide +kernel
theorem dL_law_232 : decode cL_law 232 = .ok (.iload_n 3, 1) := by decide +kernel
theorem dL_law_233 : decode cL_law 233 = .ok (.iconst 1, 1) := by decide +kernel
theorem dL_law_234 : decode cL_law 234 = .ok (.iadd, 1) := by decide +kernel
theorem dL_law_235 : decode cL_law 235 = .ok (.iaload, 1) := by decide +kernel
theorem dL_law_236 : decode cL_law 236 = .ok (.aload_n 0, 1) := by decide +kernel
theorem dL_law_237 : decode cL_law 237 = .ok (.iload_n 3, 1) := by decide +kernel
theorem dL_law_238 : decode cL_law 238 = .ok (.iconst 2, 1) := by decide +kernel
theorem dL_law_239 : decode cL_law 239 = .ok (.iadd, 1) := by decide +kernel
theorem dL_law_240 : decode cL_law 240 = .ok (.iaload, 1) := by decide +kernel
theorem dL_law_241 : decode cL_law 241 = .ok (.aload_n 0, 1) := by decide +kernel
theorem dL_law_242 : decode cL_law 242 = .ok (.iload_n 3, 1) := by decide +kernel
theorem dL_law_243 : decode cL_law 243 = .ok (.iconst 3, 1) := by decide +kernel
theorem dL_law_244 : decode cL_law 244 = .ok (.iadd, 1) := by decide +kernel
theorem dL_law_245 : decode cL_law 245 = .ok (.iaload, 1) := by decide +kernel
theorem dL_law_246 : decode cL_law 246 = .ok (.invokevirtual 23, 3) := by decide +kernel
theorem dL_law_249 : decode cL_law 249 = .ok (.aload_n 2, 1) := by decide +kernel
theorem dL_law_250 : decode cL_law 250 = .ok (.aload_n 0, 1) := by decide +kernel
theorem dL_law_251 : decode cL_law 251 = .ok (.iload_n 3, 1) := by decide +kernel
theorem dL_law_252 : decode cL_law 252 = .ok (.iconst 1, 1) := by decide +kernel
theorem dL_law_253 : decode cL_law 253 = .ok (.iadd, 1) := by decide +kernel
theorem dL_law_254 : decode cL_law 254 = .ok (.iaload, 1) := by decide +kernel
theorem dL_law_255 : decode cL_law 255 = .ok (.aload_n 0, 1) := by decide +kernel
theorem dL_law_256 : decode cL_law 256 = .ok (.iload_n 3, 1) := by decide +kernel
theorem dL_law_257 : decode cL_law 257 = .ok (.iconst 2, 1) := by decide +kernel
theorem dL_law_258 : decode cL_law 258 = .ok (.iadd, 1) := by decide +kernel
theorem dL_law_259 : decode cL_law 259 = .ok (.iaload, 1) := by decide +kernel
theorem dL_law_260 : decode cL_law 260 = .ok (.aload_n 0, 1) := by decide +kernel
theorem dL_law_261 : decode cL_law 261 = .ok (.iload_n 3, 1) := by decide +kernel
theorem dL_law_262 : decode cL_law 262 = .ok (.iconst 3, 1) := by decide +kernel
theorem dL_law_263 : decode cL_law 263 = .ok (.iadd, 1) := by decide +kernel
theorem dL_law_264 : decode cL_law 264 = .ok (.iaload, 1) := by decide +kernel
theorem dL_law_265 : decode cL_law 265 = .ok (.invokevirtual 27, 3) := by decide +kernel
theorem dL_law_268 : decode cL_law 268 = .ok (.if_icmp .eq 567, 3) := by decide +kernel
theorem dL_law_271 : decode cL_law 271 = .ok (.iconst 0, 1) := by decide +kernel
theorem dL_law_272 : decode cL_law 272 = .ok (.ireturn, 1) := by decide +kernel
theorem dL_law_273 : decode cL_law 273 = .ok (.aload_n 1, 1) := by decide +kernel
theorem dL_law_274 : decode cL_law 274 = .ok (.aload_n 0, 1) := by decide +kernel
theorem dL_law_275 : decode cL_law 275 = .ok (.iload_n 3, 1) := by decide +kernel
theorem dL_law_276 : decode cL_law 276 = .ok (.iconst 1, 1) := by decide +kernel
theorem dL_law_277 : decode cL_law 277 = .ok (.iadd, 1) := by decide +kernel
theorem dL_law_278 : decode cL_law 278 = .ok (.iaload, 1) := by decide +kernel
theorem dL_law_279 : decode cL_law 279 = .ok (.aload_n 0, 1) := by decide +kernel
theorem dL_law_280 : decode cL_law 280 = .ok (.iload_n 3, 1) := by decide +kernel
theorem dL_law_281 : decode cL_law 281 = .ok (.iconst 2, 1) := by decide +kernel
theorem dL_law_282 : decode cL_law 282 = .ok (.iadd, 1) := by decide +kernel
theorem dL_law_283 : decode cL_law 283 = .ok (.iaload, 1) := by decide +kernel
theorem dL_law_284 : decode cL_law 284 = .ok (.aload_n 0, 1) := by decide +kernel
theorem dL_law_285 : decode cL_law 285 = .ok (.iload_n 3, 1) := by decide +kernel
theorem dL_law_286 : decode cL_law 286 = .ok (.iconst 3, 1) := by decide +kernel
theorem dL_law_287 : decode cL_law 287 = .ok (.iadd, 1) := by decide +kernel
theorem dL_law_288 : decode cL_law 288 = .ok (.iaload, 1) := by decide +kernel
theorem dL_law_289 : decode cL_law 289 = .ok (.aload_n 0, 1) := by decide +kernel
theorem dL_law_290 : decode cL_law 290 = .ok (.iload_n 3, 1) := by decide +kernel
theorem dL_law_291 : decode cL_law 291 = .ok (.iconst 4, 1) := by decide +kernel
theorem dL_law_292 : decode cL_law 292 = .ok (.iadd, 1) := by decide +kernel
theorem dL_law_293 : decode cL_law 293 = .ok (.iaload, 1) := by decide +kernel
theorem dL_law_294 : decode cL_law 294 = .ok (.invokevirtual 28, 3) := by decide +kernel
theorem dL_law_297 : decode cL_law 297 = .ok (.aload_n 2, 1) := by decide +kernel
theorem dL_law_298 : decode cL_law 298 = .ok (.aload_n 0, 1) := by decide +kernel
theorem dL_law_299 : decode cL_law 299 = .ok (.iload_n 3, 1) := by decide +kernel
theorem dL_law_300 : decode cL_law 300 = .ok (.iconst 1, 1) := by decide +kernel
theorem dL_law_301 : decode cL_law 301 = .ok (.iadd, 1) := by decide +kernel
theorem dL_law_302 : decode cL_law 302 = .ok (.iaload, 1) := by decide +kernel
theorem dL_law_303 : decode cL_law 303 = .ok (.aload_n 0, 1) := by decide +kernel
theorem dL_law_304 : decode cL_law 304 = .ok (.iload_n 3, 1) := by decide +kernel
theorem dL_law_305 : decode cL_law 305 = .ok (.iconst 2, 1) := by decide +kernel
theorem dL_law_306 : decode cL_law 306 = .ok (.iadd, 1) := by decide +kernel
theorem dL_law_307 : decode cL_law 307 = .ok (.iaload, 1) := by decide +kernel
theorem dL_law_308 : decode cL_law 308 = .ok (.aload_n 0, 1) := by decide +kernel
theorem dL_law_309 : decode cL_law 309 = .ok (.iload_n 3, 1) := by decide +kernel
theorem dL_law_310 : decode cL_law 310 = .ok (.iconst 3, 1) := by decide +kernel
theorem dL_law_311 : decode cL_law 311 = .ok (.iadd, 1) := by decide +kernel
theorem dL_law_312 : decode cL_law 312 = .ok (.iaload, 1) := by decide +kernel
theorem dL_law_313 : decode cL_law 313 = .ok (.aload_n 0, 1) := by decide +kernel
theorem dL_law_314 : decode cL_law 314 = .ok (.iload_n 3, 1) := by decide +kernel
theorem dL_law_315 : decode cL_law 315 = .ok (.iconst 4, 1) := by decide +kernel
theorem dL_law_316 : decode cL_law 316 = .ok (.iadd, 1) := by decide +kernel
theorem dL_law_317 : decode cL_law 317 = .ok (.iaload, 1) := by decide +kernel
theorem dL_law_318 : decode cL_law 318 = .ok (.invokevirtual 32, 3) := by decide +kernel
theorem dL_law_321 : decode cL_law 321 = .ok (.if_icmp .eq 514, 3) := by decide +kernel
theorem dL_law_324 : decode cL_law 324 = .ok (.iconst 0, 1) := by decide +kernel
theorem dL_law_325 : decode cL_law 325 = .ok (.ireturn, 1) := by decide +kernel
theorem dL_law_326 : decode cL_law 326 = .ok (.aload_n 1, 1) := by decide +kernel
theorem dL_law_327 : decode cL_law 327 = .ok (.aload_n 0, 1) := by decide +kernel
theorem dL_law_328 : decode cL_law 328 = .ok (.iload_n 3, 1) := by decide +kernel
theorem dL_law_329 : decode cL_law 329 = .ok (.iconst 1, 1) := by decide +kernel
theorem dL_law_330 : decode cL_law 330 = .ok (.iadd, 1) := by decide +kernel
theorem dL_law_331 : decode cL_law 331 = .ok (.iaload, 1) := by decide +kernel
theorem dL_law_332 : decode cL_law 332 = .ok (.aload_n 0, 1) := by decide +kernel
theorem dL_law_333 : decode cL_law 333 = .ok (.iload_n 3, 1) := by decide +kernel
theorem dL_law_334 : decode cL_law 334 = .ok (.iconst 2, 1) := by decide +kernel
theorem dL_law_335 : decode cL_law 335 = .ok (.iadd, 1) := by decide +kernel
theorem dL_law_336 : decode cL_law 336 = .ok (.iaload, 1) := by decide +kernel
theorem dL_law_337 : decode cL_law 337 = .ok (.invokevirtual 33, 3) := by decide +kernel
theorem dL_law_340 : decode cL_law 340 = .ok (.aload_n 2, 1) := by decide +kernel
theorem dL_law_341 : decode cL_law 341 = .ok (.aload_n 0, 1) := by decide +kernel
theorem dL_law_342 : decode cL_law 342 = .ok (.iload_n 3, 1) := by decide +kernel
theorem dL_law_343 : decode cL_law 343 = .ok (.iconst 1, 1) := by decide +kernel
theorem dL_law_344 : decode cL_law 344 = .ok (.iadd, 1) := by decide +kernel
theorem dL_law_345 : decode cL_law 345 = .ok (.iaload, 1) := by decide +kernel
theorem dL_law_346 : decode cL_law 346 = .ok (.aload_n 0, 1) := by decide +kernel
theorem dL_law_347 : decode cL_law 347 = .ok (.iload_n 3, 1) := by decide +kernel
theorem dL_law_348 : decode cL_law 348 = .ok (.iconst 2, 1) := by decide +kernel
theorem dL_law_349 : decode cL_law 349 = .ok (.iadd, 1) := by decide +kernel
theorem dL_law_350 : decode cL_law 350 = .ok (.iaload, 1) := by decide +kernel
theorem dL_law_351 : decode cL_law 351 = .ok (.invokevirtual 37, 3) := by decide +kernel
theorem dL_law_354 : decode cL_law 354 = .ok (.if_icmp .eq 481, 3) := by decide +kernel
theorem dL_law_357 : decode cL_law 357 = .ok (.iconst 0, 1) := by decide +kernel
theorem dL_law_358 : decode cL_law 358 = .ok (.ireturn, 1) := by decide +kernel
theorem dL_law_359 : decode cL_law 359 = .ok (.aload_n 1, 1) := by decide +kernel
theorem dL_law_360 : decode cL_law 360 = .ok (.aload_n 0, 1) := by decide +kernel
theorem dL_law_361 : decode cL_law 361 = .ok (.iload_n 3, 1) := by decide +kernel
theorem dL_law_362 : decode cL_law 362 = .ok (.iconst 1, 1) := by decide +kernel
theorem dL_law_363 : decode cL_law 363 = .ok (.iadd, 1) := by decide +kernel
theorem dL_law_364 : decode cL_law 364 = .ok (.iaload, 1) := by decide +kernel
theorem dL_law_365 : decode cL_law 365 = .ok (.invokevirtual 38, 3) := by decide +kernel
theorem dL_law_368 : decode cL_law 368 = .ok (.aload_n 2, 1) := by decide +kernel
theorem dL_law_369 : decode cL_law 369 = .ok (.aload_n 0, 1) := by decide +kernel
theorem dL_law_370 : decode cL_law 370 = .ok (.iload_n 3, 1) := by decide +kernel
theorem dL_law_371 : decode cL_law 371 = .ok (.iconst 1, 1) := by decide +kernel
theorem dL_law_372 : decode cL_law 372 = .ok (.iadd, 1) := by decide +kernel
theorem dL_law_373 : decode cL_law 373 = .ok (.iaload, 1) := by decide +kernel
theorem dL_law_374 : decode cL_law 374 = .ok (.invokevirtual 42, 3) := by decide +kernel
theorem dL_law_377 : decode cL_law 377 = .ok (.if_icmp .eq 458, 3) := by decide +kernel
theorem dL_law_380 : decode cL_law 380 = .ok (.iconst 0, 1) := by decide +kernel
theorem dL_law_381 : decode cL_law 381 = .ok (.ireturn, 1) := by decide +kernel
theorem dL_law_382 : decode cL_law 382 = .ok (.aload_n 1, 1) := by decide +kernel
theorem dL_law_383 : decode cL_law 383 = .ok (.aload_n 0, 1) := by decide +kernel
theorem dL_law_384 : decode cL_law 384 = .ok (.iload_n 3, 1) := by decide +kernel
theorem dL_law_385 : decode cL_law 385 = .ok (.iconst 1, 1) := by decide +kernel
theorem dL_law_386 : decode cL_law 386 = .ok (.iadd, 1) := by decide +kernel
theorem dL_law_387 : decode cL_law 387 = .ok (.iaload, 1) := by decide +kernel
theorem dL_law_388 : decode cL_law 388 = .ok (.aload_n 0, 1) := by decide +kernel
theorem dL_law_389 : decode cL_law 389 = .ok (.iload_n 3, 1) := by decide +kernel
theorem dL_law_390 : decode cL_law 390 = .ok (.iconst 2, 1) := by decide +kernel
theorem dL_law_391 : decode cL_law 391 = .ok (.iadd, 1) := by decide +kernel
theorem dL_law_392 : decode cL_law 392 = .ok (.iaload, 1) := by decide +kernel
theorem dL_law_393 : decode cL_law 393 = .ok (.invokevirtual 43, 3) := by decide +kernel
theorem dL_law_396 : decode cL_law 396 = .ok (.aload_n 2, 1) := by decide +kernel
theorem dL_law_397 : decode cL_law 397 = .ok (.aload_n 0, 1) := by decide +kernel
theorem dL_law_398 : decode cL_law 398 = .ok (.iload_n 3, 1) := by decide +kernel
theorem dL_law_399 : decode cL_law 399 = .ok (.iconst 1, 1) := by decide +kernel
theorem dL_law_400 : decode cL_law 400 = .ok (.iadd, 1) := by decide +kernel
theorem dL_law_401 : decode cL_law 401 = .ok (.iaload, 1) := by decide +kernel
theorem dL_law_402 : decode cL_law 402 = .ok (.aload_n 0, 1) := by decide +kernel
theorem dL_law_403 : decode cL_law 403 = .ok (.iload_n 3, 1) := by decide +kernel
theorem dL_law_404 : decode cL_law 404 = .ok (.iconst 2, 1) := by decide +kernel
theorem dL_law_405 : decode cL_law 405 = .ok (.iadd, 1) := by decide +kernel
theorem dL_law_406 : decode cL_law 406 = .ok (.iaload, 1) := by decide +kernel
theorem dL_law_407 : decode cL_law 407 = .ok (.invokevirtual 46, 3) := by decide +kernel
theorem dL_law_410 : decode cL_law 410 = .ok (.if_icmp .eq 425, 3) := by decide +kernel
theorem dL_law_413 : decode cL_law 413 = .ok (.iconst 0, 1) := by decide +kernel
theorem dL_law_414 : decode cL_law 414 = .ok (.ireturn, 1) := by decide +kernel
theorem dL_law_415 : decode cL_law 415 = .ok (.aload_n 1, 1) := by decide +kernel
theorem dL_law_416 : decode cL_law 416 = .ok (.aload_n 0, 1) := by decide +kernel
theorem dL_law_417 : decode cL_law 417 = .ok (.iload_n 3, 1) := by decide +kernel
theorem dL_law_418 : decode cL_law 418 = .ok (.iconst 1, 1) := by decide +kernel
theorem dL_law_419 : decode cL_law 419 = .ok (.iadd, 1) := by decide +kernel
theorem dL_law_420 : decode cL_law 420 = .ok (.iaload, 1) := by decide +kernel
theorem dL_law_421 : decode cL_law 421 = .ok (.invokevirtual 47, 3) := by decide +kernel
theorem dL_law_424 : decode cL_law 424 = .ok (.aload_n 2, 1) := by decide +kernel
theorem dL_law_425 : decode cL_law 425 = .ok (.aload_n 0, 1) := by decide +kernel
theorem dL_law_426 : decode cL_law 426 = .ok (.iload_n 3, 1) := by decide +kernel
theorem dL_law_427 : decode cL_law 427 = .ok (.iconst 1, 1) := by decide +kernel
theorem dL_law_428 : decode cL_law 428 = .ok (.iadd, 1) := by decide +kernel
theorem dL_law_429 : decode cL_law 429 = .ok (.iaload, 1) := by decide +kernel
theorem dL_law_430 : decode cL_law 430 = .ok (.invokevirtual 51, 3) := by decide +kernel
theorem dL_law_433 : decode cL_law 433 = .ok (.if_icmp .eq 402, 3) := by decide +kernel
theorem dL_law_436 : decode cL_law 436 = .ok (.iconst 0, 1) := by decide +kernel
theorem dL_law_437 : decode cL_law 437 = .ok (.ireturn, 1) := by decide +kernel
theorem dL_law_438 : decode cL_law 438 = .ok (.aload_n 1, 1) := by decide +kernel
theorem dL_law_439 : decode cL_law 439 = .ok (.aload_n 0, 1) := by decide +kernel
theorem dL_law_440 : decode cL_law 440 = .ok (.iload_n 3, 1) := by decide +kernel
theorem dL_law_441 : decode cL_law 441 = .ok (.iconst 1, 1) := by decide +kernel
theorem dL_law_442 : decode cL_law 442 = .ok (.iadd, 1) := by decide +kernel
theorem dL_law_443 : decode cL_law 443 = .ok (.iaload, 1) := by decide +kernel
theorem dL_law_444 : decode cL_law 444 = .ok (.invokevirtual 52, 3) := by decide +kernel
theorem dL_law_447 : decode cL_law 447 = .ok (.aload_n 2, 1) := by decide +kernel
theorem dL_law_448 : decode cL_law 448 = .ok (.aload_n 0, 1) := by decide +kernel
theorem dL_law_449 : decode cL_law 449 = .ok (.iload_n 3, 1) := by decide +kernel
theorem dL_law_450 : decode cL_law 450 = .ok (.iconst 1, 1) := by decide +kernel
theorem dL_law_451 : decode cL_law 451 = .ok (.iadd, 1) := by decide +kernel
theorem dL_law_452 : decode cL_law 452 = .ok (.iaload, 1) := by decide +kernel
theorem dL_law_453 : decode cL_law 453 = .ok (.invokevirtual 55, 3) := by decide +kernel
theorem dL_law_456 : decode cL_law 456 = .ok (.if_icmp .eq 379, 3) := by decide +kernel
theorem dL_law_459 : decode cL_law 459 = .ok (.iconst 0, 1) := by decide +kernel
theorem dL_law_460 : decode cL_law 460 = .ok (.ireturn, 1) := by decide +kernel
theorem dL_law_461 : decode cL_law 461 = .ok (.aload_n 1, 1) := by decide +kernel
theorem dL_law_462 : decode cL_law 462 = .ok (.aload_n 0, 1) := by decide +kernel
theorem dL_law_463 : decode cL_law 463 = .ok (.iload_n 3, 1) := by decide +kernel
theorem dL_law_464 : decode cL_law 464 = .ok (.iconst 1, 1) := by decide +kernel
theorem dL_law_465 : decode cL_law 465 = .ok (.iadd, 1) := by decide +kernel
theorem dL_law_466 : decode cL_law 466 = .ok (.iaload, 1) := by decide +kernel
theorem dL_law_467 : decode cL_law 467 = .ok (.invokevirtual 56, 3) := by decide +kernel
theorem dL_law_470 : decode cL_law 470 = .ok (.aload_n 2, 1) := by decide +kernel
theorem dL_law_471 : decode cL_law 471 = .ok (.aload_n 0, 1) := by decide +kernel
theorem dL_law_472 : decode cL_law 472 = .ok (.iload_n 3, 1) := by decide +kernel
theorem dL_law_473 : decode cL_law 473 = .ok (.iconst 1, 1) := by decide +kernel
theorem dL_law_474 : decode cL_law 474 = .ok (.iadd, 1) := by decide +kernel
theorem dL_law_475 : decode cL_law 475 = .ok (.iaload, 1) := by decide +kernel
theorem dL_law_476 : decode cL_law 476 = .ok (.invokevirtual 59, 3) := by decide +kernel
theorem dL_law_479 : decode cL_law 479 = .ok (.if_icmp .eq 356, 3) := by decide +kernel
theorem dL_law_482 : decode cL_law 482 = .ok (.iconst 0, 1) := by decide +kernel
theorem dL_law_483 : decode cL_law 483 = .ok (.ireturn, 1) := by decide +kernel
theorem dL_law_484 : decode cL_law 484 = .ok (.aload_n 1, 1) := by decide +kernel
theorem dL_law_485 : decode cL_law 485 = .ok (.aload_n 0, 1) := by decide +kernel
theorem dL_law_486 : decode cL_law 486 = .ok (.iload_n 3, 1) := by decide +kernel
theorem dL_law_487 : decode cL_law 487 = .ok (.iconst 1, 1) := by decide +kernel
theorem dL_law_488 : decode cL_law 488 = .ok (.iadd, 1) := by decide +kernel
theorem dL_law_489 : decode cL_law 489 = .ok (.iaload, 1) := by decide +kernel
theorem dL_law_490 : decode cL_law 490 = .ok (.aload_n 0, 1) := by decide +kernel
theorem dL_law_491 : decode cL_law 491 = .ok (.iload_n 3, 1) := by decide +kernel
theorem dL_law_492 : decode cL_law 492 = .ok (.iconst 2, 1) := by decide +kernel
theorem dL_law_493 : decode cL_law 493 = .ok (.iadd, 1) := by decide +kernel
theorem dL_law_494 : decode cL_law 494 = .ok (.iaload, 1) := by decide +kernel
theorem dL_law_495 : decode cL_law 495 = .ok (.invokevirtual 60, 3) := by decide +kernel
theorem dL_law_498 : decode cL_law 498 = .ok (.aload_n 2, 1) := by decide +kernel
theorem dL_law_499 : decode cL_law 499 = .ok (.aload_n 0, 1) := by decide +kernel
theorem dL_law_500 : decode cL_law 500 = .ok (.iload_n 3, 1) := by decide +kernel
theorem dL_law_501 : decode cL_law 501 = .ok (.iconst 1, 1) := by decide +kernel
theorem dL_law_502 : decode cL_law 502 = .ok (.iadd, 1) := by decide +kernel
theorem dL_law_503 : decode cL_law 503 = .ok (.iaload, 1) := by decide +kernel
theorem dL_law_504 : decode cL_law 504 = .ok (.aload_n 0, 1) := by decide +kernel
theorem dL_law_505 : decode cL_law 505 = .ok (.iload_n 3, 1) := by decide +kernel
theorem dL_law_506 : decode cL_law 506 = .ok (.iconst 2, 1) := by decide +kernel
theorem dL_law_507 : decode cL_law 507 = .ok (.iadd, 1) := by decide +kernel
theorem dL_law_508 : decode cL_law 508 = .ok (.iaload, 1) := by decide +kernel
theorem dL_law_509 : decode cL_law 509 = .ok (.invokevirtual 63, 3) := by decide +kernel
theorem dL_law_512 : decode cL_law 512 = .ok (.if_icmp .eq 323, 3) := by decide +kernel
theorem dL_law_515 : decode cL_law 515 = .ok (.iconst 0, 1) := by decide +kernel
theorem dL_law_516 : decode cL_law 516 = .ok (.ireturn, 1) := by decide +kernel
theorem dL_law_517 : decode cL_law 517 = .ok (.aload_n 1, 1) := by decide +kernel
theorem dL_law_518 : decode cL_law 518 = .ok (.aload_n 0, 1) := by decide +kernel
theorem dL_law_519 : decode cL_law 519 = .ok (.iload_n 3, 1) := by decide +kernel
theorem dL_law_520 : decode cL_law 520 = .ok (.iconst 1, 1) := by decide +kernel
theorem dL_law_521 : decode cL_law 521 = .ok (.iadd, 1) := by decide +kernel
theorem dL_law_522 : decode cL_law 522 = .ok (.iaload, 1) := by decide +kernel
theorem dL_law_523 : decode cL_law 523 = .ok (.aload_n 0, 1) := by decide +kernel
theorem dL_law_524 : decode cL_law 524 = .ok (.iload_n 3, 1) := by decide +kernel
theorem dL_law_525 : decode cL_law 525 = .ok (.iconst 2, 1) := by decide +kernel
theorem dL_law_526 : decode cL_law 526 = .ok (.iadd, 1) := by decide +kernel
theorem dL_law_527 : decode cL_law 527 = .ok (.iaload, 1) := by decide +kernel
theorem dL_law_528 : decode cL_law 528 = .ok (.invokevirtual 64, 3) := by decide +kernel
theorem dL_law_531 : decode cL_law 531 = .ok (.aload_n 2, 1) := by decide +kernel
theorem dL_law_532 : decode cL_law 532 = .ok (.aload_n 0, 1) := by decide +kernel
theorem dL_law_533 : decode cL_law 533 = .ok (.iload_n 3, 1) := by decide +kernel
theorem dL_law_534 : decode cL_law 534 = .ok (.iconst 1, 1) := by decide +kernel
theorem dL_law_535 : decode cL_law 535 = .ok (.iadd, 1) := by decide +kernel
theorem dL_law_536 : decode cL_law 536 = .ok (.iaload, 1) := by decide +kernel
theorem dL_law_537 : decode cL_law 537 = .ok (.aload_n 0, 1) := by decide +kernel
theorem dL_law_538 : decode cL_law 538 = .ok (.iload_n 3, 1) := by decide +kernel
theorem dL_law_539 : decode cL_law 539 = .ok (.iconst 2, 1) := by decide +kernel
theorem dL_law_540 : decode cL_law 540 = .ok (.iadd, 1) := by decide +kernel
theorem dL_law_541 : decode cL_law 541 = .ok (.iaload, 1) := by decide +kernel
theorem dL_law_542 : decode cL_law 542 = .ok (.invokevirtual 67, 3) := by decide +kernel
theorem dL_law_545 : decode cL_law 545 = .ok (.if_icmp .eq 290, 3) := by decide +kernel
theorem dL_law_548 : decode cL_law 548 = .ok (.iconst 0, 1) := by decide +kernel
theorem dL_law_549 : decode cL_law 549 = .ok (.ireturn, 1) := by decide +kernel
theorem dL_law_550 : decode cL_law 550 = .ok (.aload_n 1, 1) := by decide +kernel
theorem dL_law_551 : decode cL_law 551 = .ok (.aload_n 0, 1) := by decide +kernel
theorem dL_law_552 : decode cL_law 552 = .ok (.iload_n 3, 1) := by decide +kernel
theorem dL_law_553 : decode cL_law 553 = .ok (.iconst 1, 1) := by decide +kernel
theorem dL_law_554 : decode cL_law 554 = .ok (.iadd, 1) := by decide +kernel
theorem dL_law_555 : decode cL_law 555 = .ok (.iaload, 1) := by decide +kernel
theorem dL_law_556 : decode cL_law 556 = .ok (.aload_n 0, 1) := by decide +kernel
theorem dL_law_557 : decode cL_law 557 = .ok (.iload_n 3, 1) := by decide +kernel
theorem dL_law_558 : decode cL_law 558 = .ok (.iconst 2, 1) := by decide +kernel
theorem dL_law_559 : decode cL_law 559 = .ok (.iadd, 1) := by decide +kernel
theorem dL_law_560 : decode cL_law 560 = .ok (.iaload, 1) := by decide +kernel
theorem dL_law_561 : decode cL_law 561 = .ok (.invokevirtual 68, 3) := by decide +kernel
theorem dL_law_564 : decode cL_law 564 = .ok (.aload_n 2, 1) := by decide +kernel
theorem dL_law_565 : decode cL_law 565 = .ok (.aload_n 0, 1) := by decide +kernel
theorem dL_law_566 : decode cL_law 566 = .ok (.iload_n 3, 1) := by decide +kernel
theorem dL_law_567 : decode cL_law 567 = .ok (.iconst 1, 1) := by decide +kernel
theorem dL_law_568 : decode cL_law 568 = .ok (.iadd, 1) := by decide +kernel
theorem dL_law_569 : decode cL_law 569 = .ok (.iaload, 1) := by decide +kernel
theorem dL_law_570 : decode cL_law 570 = .ok (.aload_n 0, 1) := by decide +kernel
theorem dL_law_571 : decode cL_law 571 = .ok (.iload_n 3, 1) := by decide +kernel
theorem dL_law_572 : decode cL_law 572 = .ok (.iconst 2, 1) := by decide +kernel
theorem dL_law_573 : decode cL_law 573 = .ok (.iadd, 1) := by decide +kernel
theorem dL_law_574 : decode cL_law 574 = .ok (.iaload, 1) := by decide +kernel
theorem dL_law_575 : decode cL_law 575 = .ok (.invokevirtual 71, 3) := by decide +kernel
theorem dL_law_578 : decode cL_law 578 = .ok (.if_icmp .eq 257, 3) := by decide +kernel
theorem dL_law_581 : decode cL_law 581 = .ok (.iconst 0, 1) := by decide +kernel
theorem dL_law_582 : decode cL_law 582 = .ok (.ireturn, 1) := by decide +kernel
theorem dL_law_583 : decode cL_law 583 = .ok (.aload_n 1, 1) := by decide +kernel
theorem dL_law_584 : decode cL_law 584 = .ok (.aload_n 0, 1) := by decide +kernel
theorem dL_law_585 : decode cL_law 585 = .ok (.iload_n 3, 1) := by decide +kernel
theorem dL_law_586 : decode cL_law 586 = .ok (.iconst 1, 1) := by decide +kernel
theorem dL_law_587 : decode cL_law 587 = .ok (.iadd, 1) := by decide +kernel
theorem dL_law_588 : decode cL_law 588 = .ok (.iaload, 1) := by decide +kernel
theorem dL_law_589 : decode cL_law 589 = .ok (.aload_n 0, 1) := by decide +kernel
theorem dL_law_590 : decode cL_law 590 = .ok (.iload_n 3, 1) := by decide +kernel
theorem dL_law_591 : decode cL_law 591 = .ok (.iconst 2, 1) := by decide +kernel
theorem dL_law_592 : decode cL_law 592 = .ok (.iadd, 1) := by decide +kernel
theorem dL_law_593 : decode cL_law 593 = .ok (.iaload, 1) := by decide +kernel
theorem dL_law_594 : decode cL_law 594 = .ok (.aload_n 0, 1) := by decide +kernel
theorem dL_law_595 : decode cL_law 595 = .ok (.iload_n 3, 1) := by decide +kernel
theorem dL_law_596 : decode cL_law 596 = .ok (.iconst 3, 1) := by decide +kernel
theorem dL_law_597 : decode cL_law 597 = .ok (.iadd, 1) := by decide +kernel
theorem dL_law_598 : decode cL_law 598 = .ok (.iaload, 1) := by decide +kernel
theorem dL_law_599 : decode cL_law 599 = .ok (.aload_n 0, 1) := by decide +kernel
theorem dL_law_600 : decode cL_law 600 = .ok (.iload_n 3, 1) := by decide +kernel
theorem dL_law_601 : decode cL_law 601 = .ok (.iconst 4, 1) := by decide +kernel
theorem dL_law_602 : decode cL_law 602 = .ok (.iadd, 1) := by decide +kernel
theorem dL_law_603 : decode cL_law 603 = .ok (.iaload, 1) := by decide +kernel
theorem dL_law_604 : decode cL_law 604 = .ok (.invokevirtual 72, 3) := by decide +kernel
theorem dL_law_607 : decode cL_law 607 = .ok (.aload_n 2, 1) := by decide +kernel
theorem dL_law_608 : decode cL_law 608 = .ok (.aload_n 0, 1) := by decide +kernel
theorem dL_law_609 : decode cL_law 609 = .ok (.iload_n 3, 1) := by decide +kernel
theorem dL_law_610 : decode cL_law 610 = .ok (.iconst 1, 1) := by decide +kernel
theorem dL_law_611 : decode cL_law 611 = .ok (.iadd, 1) := by decide +kernel
theorem dL_law_612 : decode cL_law 612 = .ok (.iaload, 1) := by decide +kernel
theorem dL_law_613 : decode cL_law 613 = .ok (.aload_n 0, 1) := by decide +kernel
theorem dL_law_614 : decode cL_law 614 = .ok (.iload_n 3, 1) := by decide +kernel
theorem dL_law_615 : decode cL_law 615 = .ok (.iconst 2, 1) := by decide +kernel
theorem dL_law_616 : decode cL_law 616 = .ok (.iadd, 1) := by decide +kernel
theorem dL_law_617 : decode cL_law 617 = .ok (.iaload, 1) := by decide +kernel
theorem dL_law_618 : decode cL_law 618 = .ok (.aload_n 0, 1) := by decide +kernel
theorem dL_law_619 : decode cL_law 619 = .ok (.iload_n 3, 1) := by decide +kernel
theorem dL_law_620 : decode cL_law 620 = .ok (.iconst 3, 1) := by decide +kernel
theorem dL_law_621 : decode cL_law 621 = .ok (.iadd, 1) := by decide +kernel
theorem dL_law_622 : decode cL_law 622 = .ok (.iaload, 1) := by decide +kernel
theorem dL_law_623 : decode cL_law 623 = .ok (.aload_n 0, 1) := by decide +kernel
theorem dL_law_624 : decode cL_law 624 = .ok (.iload_n 3, 1) := by decide +kernel
theorem dL_law_625 : decode cL_law 625 = .ok (.iconst 4, 1) := by decide +kernel
theorem dL_law_626 : decode cL_law 626 = .ok (.iadd, 1) := by decide +kernel
theorem dL_law_627 : decode cL_law 627 = .ok (.iaload, 1) := by decide +kernel
theorem dL_law_628 : decode cL_law 628 = .ok (.invokevirtual 75, 3) := by decide +kernel
theorem dL_law_631 : decode cL_law 631 = .ok (.if_icmp .eq 204, 3) := by decide +kernel
theorem dL_law_634 : decode cL_law 634 = .ok (.iconst 0, 1) := by decide +kernel
theorem dL_law_635 : decode cL_law 635 = .ok (.ireturn, 1) := by decide +kernel
theorem dL_law_636 : decode cL_law 636 = .ok (.aload_n 1, 1) := by decide +kernel
theorem dL_law_637 : decode cL_law 637 = .ok (.aload_n 0, 1) := by decide +kernel
theorem dL_law_638 : decode cL_law 638 = .ok (.iload_n 3, 1) := by decide +kernel
theorem dL_law_639 : decode cL_law 639 = .ok (.iconst 1, 1) := by decide +kernel
theorem dL_law_640 : decode cL_law 640 = .ok (.iadd, 1) := by decide +kernel
theorem dL_law_641 : decode cL_law 641 = .ok (.iaload, 1) := by decide +kernel
theorem dL_law_642 : decode cL_law 642 = .ok (.aload_n 0, 1) := by decide +kernel
theorem dL_law_643 : decode cL_law 643 = .ok (.iload_n 3, 1) := by decide +kernel
theorem dL_law_644 : decode cL_law 644 = .ok (.iconst 2, 1) := by decide +kernel
theorem dL_law_645 : decode cL_law 645 = .ok (.iadd, 1) := by decide +kernel
theorem dL_law_646 : decode cL_law 646 = .ok (.iaload, 1) := by decide +kernel
theorem dL_law_647 : decode cL_law 647 = .ok (.aload_n 0, 1) := by decide +kernel
theorem dL_law_648 : decode cL_law 648 = .ok (.iload_n 3, 1) := by decide +kernel
theorem dL_law_649 : decode cL_law 649 = .ok (.iconst 3, 1) := by decide +kernel
theorem dL_law_650 : decode cL_law 650 = .ok (.iadd, 1) := by decide +kernel
theorem dL_law_651 : decode cL_law 651 = .ok (.iaload, 1) := by decide +kernel
theorem dL_law_652 : decode cL_law 652 = .ok (.aload_n 0, 1) := by decide +kernel
theorem dL_law_653 : decode cL_law 653 = .ok (.iload_n 3, 1) := by decide +kernel
theorem dL_law_654 : decode cL_law 654 = .ok (.iconst 4, 1) := by decide +kernel
theorem dL_law_655 : decode cL_law 655 = .ok (.iadd, 1) := by decide +kernel
theorem dL_law_656 : decode cL_law 656 = .ok (.iaload, 1) := by decide +kernel
theorem dL_law_657 : decode cL_law 657 = .ok (.invokevirtual 76, 3) := by decide +kernel
theorem dL_law_660 : decode cL_law 660 = .ok (.aload_n 2, 1) := by decide +kernel
theorem dL_law_661 : decode cL_law 661 = .ok (.aload_n 0, 1) := by decide +kernel
theorem dL_law_662 : decode cL_law 662 = .ok (.iload_n 3, 1) := by decide +kernel
theorem dL_law_663 : decode cL_law 663 = .ok (.iconst 1, 1) := by decide +kernel
theorem dL_law_664 : decode cL_law 664 = .ok (.iadd, 1) := by decide +kernel
theorem dL_law_665 : decode cL_law 665 = .ok (.iaload, 1) := by decide +kernel
theorem dL_law_666 : decode cL_law 666 = .ok (.aload_n 0, 1) := by decide +kernel
theorem dL_law_667 : decode cL_law 667 = .ok (.iload_n 3, 1) := by decide +kernel
theorem dL_law_668 : decode cL_law 668 = .ok (.iconst 2, 1) := by decide +kernel
theorem dL_law_669 : decode cL_law 669 = .ok (.iadd, 1) := by decide +kernel
theorem dL_law_670 : decode cL_law 670 = .ok (.iaload, 1) := by decide +kernel
theorem dL_law_671 : decode cL_law 671 = .ok (.aload_n 0, 1) := by decide +kernel
theorem dL_law_672 : decode cL_law 672 = .ok (.iload_n 3, 1) := by decide +kernel
theorem dL_law_673 : decode cL_law 673 = .ok (.iconst 3, 1) := by decide +kernel
theorem dL_law_674 : decode cL_law 674 = .ok (.iadd, 1) := by decide +kernel
theorem dL_law_675 : decode cL_law 675 = .ok (.iaload, 1) := by decide +kernel
theorem dL_law_676 : decode cL_law 676 = .ok (.aload_n 0, 1) := by decide +kernel
theorem dL_law_677 : decode cL_law 677 = .ok (.iload_n 3, 1) := by decide +kernel
theorem dL_law_678 : decode cL_law 678 = .ok (.iconst 4, 1) := by decide +kernel
theorem dL_law_679 : decode cL_law 679 = .ok (.iadd, 1) := by decide +kernel
theorem dL_law_680 : decode cL_law 680 = .ok (.iaload, 1) := by decide +kernel
theorem dL_law_681 : decode cL_law 681 = .ok (.invokevirtual 79, 3) := by decide +kernel
theorem dL_law_684 : decode cL_law 684 = .ok (.if_icmp .eq 151, 3) := by decide +kernel
theorem dL_law_687 : decode cL_law 687 = .ok (.iconst 0, 1) := by decide +kernel
theorem dL_law_688 : decode cL_law 688 = .ok (.ireturn, 1) := by decide +kernel
theorem dL_law_689 : decode cL_law 689 = .ok (.aload_n 1, 1) := by decide +kernel
theorem dL_law_690 : decode cL_law 690 = .ok (.aload_n 0, 1) := by decide +kernel
theorem dL_law_691 : decode cL_law 691 = .ok (.iload_n 3, 1) := by decide +kernel
theorem dL_law_692 : decode cL_law 692 = .ok (.iconst 1, 1) := by decide +kernel
theorem dL_law_693 : decode cL_law 693 = .ok (.iadd, 1) := by decide +kernel
theorem dL_law_694 : decode cL_law 694 = .ok (.iaload, 1) := by decide +kernel
theorem dL_law_695 : decode cL_law 695 = .ok (.aload_n 0, 1) := by decide +kernel
theorem dL_law_696 : decode cL_law 696 = .ok (.iload_n 3, 1) := by decide +kernel
theorem dL_law_697 : decode cL_law 697 = .ok (.iconst 2, 1) := by decide +kernel
theorem dL_law_698 : decode cL_law 698 = .ok (.iadd, 1) := by decide +kernel
theorem dL_law_699 : decode cL_law 699 = .ok (.iaload, 1) := by decide +kernel
theorem dL_law_700 : decode cL_law 700 = .ok (.invokevirtual 80, 3) := by decide +kernel
theorem dL_law_703 : decode cL_law 703 = .ok (.aload_n 2, 1) := by decide +kernel
theorem dL_law_704 : decode cL_law 704 = .ok (.aload_n 0, 1) := by decide +kernel
theorem dL_law_705 : decode cL_law 705 = .ok (.iload_n 3, 1) := by decide +kernel
theorem dL_law_706 : decode cL_law 706 = .ok (.iconst 1, 1) := by decide +kernel
theorem dL_law_707 : decode cL_law 707 = .ok (.iadd, 1) := by decide +kernel
theorem dL_law_708 : decode cL_law 708 = .ok (.iaload, 1) := by decide +kernel
theorem dL_law_709 : decode cL_law 709 = .ok (.aload_n 0, 1) := by decide +kernel
theorem dL_law_710 : decode cL_law 710 = .ok (.iload_n 3, 1) := by decide +kernel
theorem dL_law_711 : decode cL_law 711 = .ok (.iconst 2, 1) := by decide +kernel
theorem dL_law_712 : decode cL_law 712 = .ok (.iadd, 1) := by decide +kernel
theorem dL_law_713 : decode cL_law 713 = .ok (.iaload, 1) := by decide +kernel
theorem dL_law_714 : decode cL_law 714 = .ok (.invokevirtual 83, 3) := by decide +kernel
theorem dL_law_717 : decode cL_law 717 = .ok (.if_icmp .eq 118, 3) := by decide +kernel
theorem dL_law_720 : decode cL_law 720 = .ok (.iconst 0, 1) := by decide +kernel
theorem dL_law_721 : decode cL_law 721 = .ok (.ireturn, 1) := by decide +kernel
theorem dL_law_722 : decode cL_law 722 = .ok (.aload_n 1, 1) := by decide +kernel
theorem dL_law_723 : decode cL_law 723 = .ok (.aload_n 0, 1) := by decide +kernel
theorem dL_law_724 : decode cL_law 724 = .ok (.iload_n 3, 1) := by decide +kernel
theorem dL_law_725 : decode cL_law 725 = .ok (.iconst 1, 1) := by decide +kernel
theorem dL_law_726 : decode cL_law 726 = .ok (.iadd, 1) := by decide +kernel
theorem dL_law_727 : decode cL_law 727 = .ok (.iaload, 1) := by decide +kernel
theorem dL_law_728 : decode cL_law 728 = .ok (.invokevirtual 84, 3) := by decide +kernel
theorem dL_law_731 : decode cL_law 731 = .ok (.aload_n 2, 1) := by decide +kernel
theorem dL_law_732 : decode cL_law 732 = .ok (.aload_n 0, 1) := by decide +kernel
theorem dL_law_733 : decode cL_law 733 = .ok (.iload_n 3, 1) := by decide +kernel
theorem dL_law_734 : decode cL_law 734 = .ok (.iconst 1, 1) := by decide +kernel
theorem dL_law_735 : decode cL_law 735 = .ok (.iadd, 1) := by decide +kernel
theorem dL_law_736 : decode cL_law 736 = .ok (.iaload, 1) := by decide +kernel
theorem dL_law_737 : decode cL_law 737 = .ok (.invokevirtual 87, 3) := by decide +kernel
theorem dL_law_740 : decode cL_law 740 = .ok (.if_icmp .eq 95, 3) := by decide +kernel
theorem dL_law_743 : decode cL_law 743 = .ok (.iconst 0, 1) := by decide +kernel
theorem dL_law_744 : decode cL_law 744 = .ok (.ireturn, 1) := by decide +kernel
theorem dL_law_745 : decode cL_law 745 = .ok (.aload_n 1, 1) := by decide +kernel
theorem dL_law_746 : decode cL_law 746 = .ok (.aload_n 0, 1) := by decide +kernel
theorem dL_law_747 : decode cL_law 747 = .ok (.iload_n 3, 1) := by decide +kernel
theorem dL_law_748 : decode cL_law 748 = .ok (.iconst 1, 1) := by decide +kernel
theorem dL_law_749 : decode cL_law 749 = .ok (.iadd, 1) := by decide +kernel
theorem dL_law_750 : decode cL_law 750 = .ok (.iaload, 1) := by decide +kernel
theorem dL_law_751 : decode cL_law 751 = .ok (.aload_n 0, 1) := by decide +kernel
theorem dL_law_752 : decode cL_law 752 = .ok (.iload_n 3, 1) := by decide +kernel
theorem dL_law_753 : decode cL_law 753 = .ok (.iconst 2, 1) := by decide +kernel
theorem dL_law_754 : decode cL_law 754 = .ok (.iadd, 1) := by decide +kernel
theorem dL_law_755 : decode cL_law 755 = .ok (.iaload, 1) := by decide +kernel
theorem dL_law_756 : decode cL_law 756 = .ok (.invokevirtual 88, 3) := by decide +kernel
theorem dL_law_759 : decode cL_law 759 = .ok (.aload_n 2, 1) := by decide +kernel
theorem dL_law_760 : decode cL_law 760 = .ok (.aload_n 0, 1) := by decide +kernel
theorem dL_law_761 : decode cL_law 761 = .ok (.iload_n 3, 1) := by decide +kernel
theorem dL_law_762 : decode cL_law 762 = .ok (.iconst 1, 1) := by decide +kernel
theorem dL_law_763 : decode cL_law 763 = .ok (.iadd, 1) := by decide +kernel
theorem dL_law_764 : decode cL_law 764 = .ok (.iaload, 1) := by decide +kernel
theorem dL_law_765 : decode cL_law 765 = .ok (.aload_n 0, 1) := by decide +kernel
theorem dL_law_766 : decode cL_law 766 = .ok (.iload_n 3, 1) := by decide +kernel
theorem dL_law_767 : decode cL_law 767 = .ok (.iconst 2, 1) := by decide +kernel
theorem dL_law_768 : decode cL_law 768 = .ok (.iadd, 1) := by decide +kernel
theorem dL_law_769 : decode cL_law 769 = .ok (.iaload, 1) := by decide +kernel
theorem dL_law_770 : decode cL_law 770 = .ok (.invokevirtual 91, 3) := by decide +kernel
theorem dL_law_773 : decode cL_law 773 = .ok (.if_icmp .eq 62, 3) := by decide +kernel
theorem dL_law_776 : decode cL_law 776 = .ok (.iconst 0, 1) := by decide +kernel
theorem dL_law_777 : decode cL_law 777 = .ok (.ireturn, 1) := by decide +kernel
theorem dL_law_778 : decode cL_law 778 = .ok (.aload_n 1, 1) := by decide +kernel
theorem dL_law_779 : decode cL_law 779 = .ok (.invokevirtual 92, 3) := by decide +kernel
theorem dL_law_782 : decode cL_law 782 = .ok (.aload_n 2, 1) := by decide +kernel
theorem dL_law_783 : decode cL_law 783 = .ok (.invokevirtual 96, 3) := by decide +kernel
theorem dL_law_786 : decode cL_law 786 = .ok (.lcmp, 1) := by decide +kernel
theorem dL_law_787 : decode cL_law 787 = .ok (.ifCond .eq 48, 3) := by decide +kernel
theorem dL_law_790 : decode cL_law 790 = .ok (.iconst 0, 1) := by decide +kernel
theorem dL_law_791 : decode cL_law 791 = .ok (.ireturn, 1) := by decide +kernel
theorem dL_law_792 : decode cL_law 792 = .ok (.aload_n 1, 1) := by decide +kernel
theorem dL_law_793 : decode cL_law 793 = .ok (.aload_n 0, 1) := by decide +kernel
theorem dL_law_794 : decode cL_law 794 = .ok (.iload_n 3, 1) := by decide +kernel
theorem dL_law_795 : decode cL_law 795 = .ok (.iconst 1, 1) := by decide +kernel
theorem dL_law_796 : decode cL_law 796 = .ok (.iadd, 1) := by decide +kernel
theorem dL_law_797 : decode cL_law 797 = .ok (.iaload, 1) := by decide +kernel
theorem dL_law_798 : decode cL_law 798 = .ok (.aload_n 0, 1) := by decide +kernel
theorem dL_law_799 : decode cL_law 799 = .ok (.iload_n 3, 1) := by decide +kernel
theorem dL_law_800 : decode cL_law 800 = .ok (.iconst 2, 1) := by decide +kernel
theorem dL_law_801 : decode cL_law 801 = .ok (.iadd, 1) := by decide +kernel
theorem dL_law_802 : decode cL_law 802 = .ok (.iaload, 1) := by decide +kernel
theorem dL_law_803 : decode cL_law 803 = .ok (.aload_n 0, 1) := by decide +kernel
theorem dL_law_804 : decode cL_law 804 = .ok (.iload_n 3, 1) := by decide +kernel
theorem dL_law_805 : decode cL_law 805 = .ok (.iconst 3, 1) := by decide +kernel
theorem dL_law_806 : decode cL_law 806 = .ok (.iadd, 1) := by decide +kernel
theorem dL_law_807 : decode cL_law 807 = .ok (.iaload, 1) := by decide +kernel
theorem dL_law_808 : decode cL_law 808 = .ok (.invokevirtual 97, 3) := by decide +kernel
theorem dL_law_811 : decode cL_law 811 = .ok (.aload_n 2, 1) := by decide +kernel
theorem dL_law_812 : decode cL_law 812 = .ok (.aload_n 0, 1) := by decide +kernel
theorem dL_law_813 : decode cL_law 813 = .ok (.iload_n 3, 1) := by decide +kernel
theorem dL_law_814 : decode cL_law 814 = .ok (.iconst 1, 1) := by decide +kernel
theorem dL_law_815 : decode cL_law 815 = .ok (.iadd, 1) := by decide +kernel
theorem dL_law_816 : decode cL_law 816 = .ok (.iaload, 1) := by decide +kernel
theorem dL_law_817 : decode cL_law 817 = .ok (.aload_n 0, 1) := by decide +kernel
theorem dL_law_818 : decode cL_law 818 = .ok (.iload_n 3, 1) := by decide +kernel
theorem dL_law_819 : decode cL_law 819 = .ok (.iconst 2, 1) := by decide +kernel
theorem dL_law_820 : decode cL_law 820 = .ok (.iadd, 1) := by decide +kernel
theorem dL_law_821 : decode cL_law 821 = .ok (.iaload, 1) := by decide +kernel
theorem dL_law_822 : decode cL_law 822 = .ok (.aload_n 0, 1) := by decide +kernel
theorem dL_law_823 : decode cL_law 823 = .ok (.iload_n 3, 1) := by decide +kernel
theorem dL_law_824 : decode cL_law 824 = .ok (.iconst 3, 1) := by decide +kernel
theorem dL_law_825 : decode cL_law 825 = .ok (.iadd, 1) := by decide +kernel
theorem dL_law_826 : decode cL_law 826 = .ok (.iaload, 1) := by decide +kernel
theorem dL_law_827 : decode cL_law 827 = .ok (.invokevirtual 100, 3) := by decide +kernel
theorem dL_law_830 : decode cL_law 830 = .ok (.if_icmp .eq 5, 3) := by decide +kernel
theorem dL_law_833 : decode cL_law 833 = .ok (.iconst 0, 1) := by decide +kernel
theorem dL_law_834 : decode cL_law 834 = .ok (.ireturn, 1) := by decide +kernel
theorem dL_law_835 : decode cL_law 835 = .ok (.iinc 3 5, 3) := by decide +kernel
theorem dL_law_838 : decode cL_law 838 = .ok (.goto (-820), 3) := by decide +kernel
theorem dL_law_841 : decode cL_law 841 = .ok (.iconst 1, 1) := by decide +kernel
theorem dL_law_842 : decode cL_law 842 = .ok (.ireturn, 1) := by decide +kernel
abbrev vwCl : List vw_C := [(RX0, TX0, 3), (RX1, TX1, 3), (RX2, TX2, 9), (RX3, TX3, 8), (RX4, TX4, 16), (RX5, TX5, 12), (RX6, TX6, 31)]
end
section
theorem zz_end : True := trivial
end
