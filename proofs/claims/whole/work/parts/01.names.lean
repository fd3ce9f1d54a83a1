-- ===== PART A: goes FIRST, ahead of the names: the tables' words, and 'selects' of the private methods out of them =====
/-- a private method of a class that the tables say can be made, by its rows of tables_1 -/
def lw_okq (q : MethodName × Nat) : Prop := (q.1.cls ≠ "java/lang/invoke/MethodHandle" ∧ q.1.cls ≠ "java/lang/invoke/VarHandle") ∧ Cond.instantiable q.1.cls q.2 ∈ tables_1 ∧ Cond.privateMethod q.1 ∈ tables_1 ∧ Cond.instanceMethod q.1 ∈ tables_1
theorem lw_p0 : lw_okq (⟨"WarpYard", "isPart", "(I)Z"⟩, 15) := ⟨⟨by decide +kernel, by decide +kernel⟩, List.mem_of_getElem? (i := 14) (by decide +kernel), List.mem_of_getElem? (i := 321) (by decide +kernel), List.mem_of_getElem? (i := 322) (by decide +kernel)⟩
theorem lw_p1 : lw_okq (⟨"WarpYard", "lastClosedMinute", "()I"⟩, 15) := ⟨⟨by decide +kernel, by decide +kernel⟩, List.mem_of_getElem? (i := 14) (by decide +kernel), List.mem_of_getElem? (i := 342) (by decide +kernel), List.mem_of_getElem? (i := 343) (by decide +kernel)⟩
theorem lw_p2 : lw_okq (⟨"WarpYard", "leastOpen", "()LWarpYard$Event;"⟩, 15) := ⟨⟨by decide +kernel, by decide +kernel⟩, List.mem_of_getElem? (i := 14) (by decide +kernel), List.mem_of_getElem? (i := 346) (by decide +kernel), List.mem_of_getElem? (i := 347) (by decide +kernel)⟩
theorem lw_p3 : lw_okq (⟨"WarpYard", "addEvent", "(IIIIII)LWarpYard$Event;"⟩, 15) := ⟨⟨by decide +kernel, by decide +kernel⟩, List.mem_of_getElem? (i := 14) (by decide +kernel), List.mem_of_getElem? (i := 354) (by decide +kernel), List.mem_of_getElem? (i := 355) (by decide +kernel)⟩
theorem lw_p4 : lw_okq (⟨"WarpYard", "workOff", "()V"⟩, 15) := ⟨⟨by decide +kernel, by decide +kernel⟩, List.mem_of_getElem? (i := 14) (by decide +kernel), List.mem_of_getElem? (i := 454) (by decide +kernel), List.mem_of_getElem? (i := 455) (by decide +kernel)⟩
theorem lw_p5 : lw_okq (⟨"WarpYard", "shadowComes", "(LWarpYard$Event;)V"⟩, 15) := ⟨⟨by decide +kernel, by decide +kernel⟩, List.mem_of_getElem? (i := 14) (by decide +kernel), List.mem_of_getElem? (i := 462) (by decide +kernel), List.mem_of_getElem? (i := 463) (by decide +kernel)⟩
theorem lw_p6 : lw_okq (⟨"WarpYard", "goBack", "(LWarpYard$Event;)I"⟩, 15) := ⟨⟨by decide +kernel, by decide +kernel⟩, List.mem_of_getElem? (i := 14) (by decide +kernel), List.mem_of_getElem? (i := 466) (by decide +kernel), List.mem_of_getElem? (i := 467) (by decide +kernel)⟩
theorem lw_p7 : lw_okq (⟨"WarpYard", "firstDone", "(II)I"⟩, 15) := ⟨⟨by decide +kernel, by decide +kernel⟩, List.mem_of_getElem? (i := 14) (by decide +kernel), List.mem_of_getElem? (i := 477) (by decide +kernel), List.mem_of_getElem? (i := 478) (by decide +kernel)⟩
theorem lw_p8 : lw_okq (⟨"WarpYard", "isDoneAt", "(II)Z"⟩, 15) := ⟨⟨by decide +kernel, by decide +kernel⟩, List.mem_of_getElem? (i := 14) (by decide +kernel), List.mem_of_getElem? (i := 481) (by decide +kernel), List.mem_of_getElem? (i := 482) (by decide +kernel)⟩
theorem lw_p9 : lw_okq (⟨"WarpYard", "stateAhead", "(IILWarpYard$State;)V"⟩, 15) := ⟨⟨by decide +kernel, by decide +kernel⟩, List.mem_of_getElem? (i := 14) (by decide +kernel), List.mem_of_getElem? (i := 485) (by decide +kernel), List.mem_of_getElem? (i := 486) (by decide +kernel)⟩
theorem lw_p10 : lw_okq (⟨"WarpYard", "isKeptAt", "(II)Z"⟩, 15) := ⟨⟨by decide +kernel, by decide +kernel⟩, List.mem_of_getElem? (i := 14) (by decide +kernel), List.mem_of_getElem? (i := 489) (by decide +kernel), List.mem_of_getElem? (i := 490) (by decide +kernel)⟩
theorem lw_p11 : lw_okq (⟨"WarpYard$Doing", "begin", "(LWarpYard$State;)V"⟩, 8) := ⟨⟨by decide +kernel, by decide +kernel⟩, List.mem_of_getElem? (i := 67) (by decide +kernel), List.mem_of_getElem? (i := 505) (by decide +kernel), List.mem_of_getElem? (i := 506) (by decide +kernel)⟩
theorem lw_p12 : lw_okq (⟨"WarpYard$Doing", "send", "(LWarpYard$State;IIII)V"⟩, 8) := ⟨⟨by decide +kernel, by decide +kernel⟩, List.mem_of_getElem? (i := 67) (by decide +kernel), List.mem_of_getElem? (i := 509) (by decide +kernel), List.mem_of_getElem? (i := 510) (by decide +kernel)⟩
theorem lw_p13 : lw_okq (⟨"WarpYard$Doing", "draw", "(LWarpYard$Part;LWarpYard$State;I)V"⟩, 8) := ⟨⟨by decide +kernel, by decide +kernel⟩, List.mem_of_getElem? (i := 67) (by decide +kernel), List.mem_of_getElem? (i := 514) (by decide +kernel), List.mem_of_getElem? (i := 515) (by decide +kernel)⟩
theorem lw_p14 : lw_okq (⟨"WarpYard$Doing", "divide", "([III)V"⟩, 8) := ⟨⟨by decide +kernel, by decide +kernel⟩, List.mem_of_getElem? (i := 67) (by decide +kernel), List.mem_of_getElem? (i := 518) (by decide +kernel), List.mem_of_getElem? (i := 519) (by decide +kernel)⟩
theorem lw_p15 : lw_okq (⟨"WarpYard$Doing", "measure", "([III)V"⟩, 8) := ⟨⟨by decide +kernel, by decide +kernel⟩, List.mem_of_getElem? (i := 67) (by decide +kernel), List.mem_of_getElem? (i := 522) (by decide +kernel), List.mem_of_getElem? (i := 523) (by decide +kernel)⟩
def lw_privs_1 : List (MethodName × Nat) := [(⟨"WarpYard", "isPart", "(I)Z"⟩, 15), (⟨"WarpYard", "lastClosedMinute", "()I"⟩, 15), (⟨"WarpYard", "leastOpen", "()LWarpYard$Event;"⟩, 15), (⟨"WarpYard", "addEvent", "(IIIIII)LWarpYard$Event;"⟩, 15), (⟨"WarpYard", "workOff", "()V"⟩, 15), (⟨"WarpYard", "shadowComes", "(LWarpYard$Event;)V"⟩, 15), (⟨"WarpYard", "goBack", "(LWarpYard$Event;)I"⟩, 15), (⟨"WarpYard", "firstDone", "(II)I"⟩, 15), (⟨"WarpYard", "isDoneAt", "(II)Z"⟩, 15), (⟨"WarpYard", "stateAhead", "(IILWarpYard$State;)V"⟩, 15), (⟨"WarpYard", "isKeptAt", "(II)Z"⟩, 15), (⟨"WarpYard$Doing", "begin", "(LWarpYard$State;)V"⟩, 8), (⟨"WarpYard$Doing", "send", "(LWarpYard$State;IIII)V"⟩, 8), (⟨"WarpYard$Doing", "draw", "(LWarpYard$Part;LWarpYard$State;I)V"⟩, 8), (⟨"WarpYard$Doing", "divide", "([III)V"⟩, 8), (⟨"WarpYard$Doing", "measure", "([III)V"⟩, 8)]
theorem lw_r1 : ∀ q ∈ lw_privs_1, lw_okq q := List.forall_mem_cons.mpr ⟨lw_p0, List.forall_mem_cons.mpr ⟨lw_p1, List.forall_mem_cons.mpr ⟨lw_p2, List.forall_mem_cons.mpr ⟨lw_p3, List.forall_mem_cons.mpr ⟨lw_p4, List.forall_mem_cons.mpr ⟨lw_p5, List.forall_mem_cons.mpr ⟨lw_p6, List.forall_mem_cons.mpr ⟨lw_p7, List.forall_mem_cons.mpr ⟨lw_p8, List.forall_mem_cons.mpr ⟨lw_p9, List.forall_mem_cons.mpr ⟨lw_p10, List.forall_mem_cons.mpr ⟨lw_p11, List.forall_mem_cons.mpr ⟨lw_p12, List.forall_mem_cons.mpr ⟨lw_p13, List.forall_mem_cons.mpr ⟨lw_p14, List.forall_mem_cons.mpr ⟨lw_p15, fun _ h => absurd h List.not_mem_nil⟩⟩⟩⟩⟩⟩⟩⟩⟩⟩⟩⟩⟩⟩⟩⟩
theorem lw_p16 : lw_okq (⟨"WarpYard", "meet", "(LWarpYard$Event;)V"⟩, 15) := ⟨⟨by decide +kernel, by decide +kernel⟩, List.mem_of_getElem? (i := 14) (by decide +kernel), List.mem_of_getElem? (i := 533) (by decide +kernel), List.mem_of_getElem? (i := 534) (by decide +kernel)⟩
theorem lw_p17 : lw_okq (⟨"WarpYard", "sendShadows", "(II)V"⟩, 15) := ⟨⟨by decide +kernel, by decide +kernel⟩, List.mem_of_getElem? (i := 14) (by decide +kernel), List.mem_of_getElem? (i := 537) (by decide +kernel), List.mem_of_getElem? (i := 538) (by decide +kernel)⟩
theorem lw_p18 : lw_okq (⟨"WarpYard", "post", "(LWarpYard$Event;ZI)V"⟩, 15) := ⟨⟨by decide +kernel, by decide +kernel⟩, List.mem_of_getElem? (i := 14) (by decide +kernel), List.mem_of_getElem? (i := 541) (by decide +kernel), List.mem_of_getElem? (i := 542) (by decide +kernel)⟩
theorem lw_p19 : lw_okq (⟨"WarpYard", "eventComes", "(LWarpYard$Event;)V"⟩, 15) := ⟨⟨by decide +kernel, by decide +kernel⟩, List.mem_of_getElem? (i := 14) (by decide +kernel), List.mem_of_getElem? (i := 545) (by decide +kernel), List.mem_of_getElem? (i := 546) (by decide +kernel)⟩
theorem lw_p20 : lw_okq (⟨"WarpYard", "doNext", "(I)I"⟩, 15) := ⟨⟨by decide +kernel, by decide +kernel⟩, List.mem_of_getElem? (i := 14) (by decide +kernel), List.mem_of_getElem? (i := 553) (by decide +kernel), List.mem_of_getElem? (i := 554) (by decide +kernel)⟩
theorem lw_p21 : lw_okq (⟨"WarpYard", "leastThere", "(I)LWarpYard$Event;"⟩, 15) := ⟨⟨by decide +kernel, by decide +kernel⟩, List.mem_of_getElem? (i := 14) (by decide +kernel), List.mem_of_getElem? (i := 557) (by decide +kernel), List.mem_of_getElem? (i := 558) (by decide +kernel)⟩
theorem lw_p22 : lw_okq (⟨"WarpYard", "isBeyondLimit", "(LWarpYard$Event;)Z"⟩, 15) := ⟨⟨by decide +kernel, by decide +kernel⟩, List.mem_of_getElem? (i := 14) (by decide +kernel), List.mem_of_getElem? (i := 561) (by decide +kernel), List.mem_of_getElem? (i := 562) (by decide +kernel)⟩
theorem lw_p23 : lw_okq (⟨"WarpYard", "doEvent", "(LWarpYard$Event;)V"⟩, 15) := ⟨⟨by decide +kernel, by decide +kernel⟩, List.mem_of_getElem? (i := 14) (by decide +kernel), List.mem_of_getElem? (i := 565) (by decide +kernel), List.mem_of_getElem? (i := 566) (by decide +kernel)⟩
theorem lw_p24 : lw_okq (⟨"WarpYard", "handOver", "(I)V"⟩, 15) := ⟨⟨by decide +kernel, by decide +kernel⟩, List.mem_of_getElem? (i := 14) (by decide +kernel), List.mem_of_getElem? (i := 588) (by decide +kernel), List.mem_of_getElem? (i := 589) (by decide +kernel)⟩
theorem lw_p25 : lw_okq (⟨"WarpYard", "settledEnd", "(LWarpYard$Event;)I"⟩, 15) := ⟨⟨by decide +kernel, by decide +kernel⟩, List.mem_of_getElem? (i := 14) (by decide +kernel), List.mem_of_getElem? (i := 624) (by decide +kernel), List.mem_of_getElem? (i := 625) (by decide +kernel)⟩
theorem lw_p26 : lw_okq (⟨"WarpYard", "settledState", "(II)LWarpYard$State;"⟩, 15) := ⟨⟨by decide +kernel, by decide +kernel⟩, List.mem_of_getElem? (i := 14) (by decide +kernel), List.mem_of_getElem? (i := 633) (by decide +kernel), List.mem_of_getElem? (i := 634) (by decide +kernel)⟩
theorem lw_p27 : lw_okq (⟨"WarpYard", "thereAt", "(I)I"⟩, 15) := ⟨⟨by decide +kernel, by decide +kernel⟩, List.mem_of_getElem? (i := 14) (by decide +kernel), List.mem_of_getElem? (i := 641) (by decide +kernel), List.mem_of_getElem? (i := 642) (by decide +kernel)⟩
theorem lw_p28 : lw_okq (⟨"WarpYard", "waitingAt", "(I)I"⟩, 15) := ⟨⟨by decide +kernel, by decide +kernel⟩, List.mem_of_getElem? (i := 14) (by decide +kernel), List.mem_of_getElem? (i := 645) (by decide +kernel), List.mem_of_getElem? (i := 646) (by decide +kernel)⟩
theorem lw_p29 : lw_okq (⟨"WarpYard", "isEvent", "(I)Z"⟩, 15) := ⟨⟨by decide +kernel, by decide +kernel⟩, List.mem_of_getElem? (i := 14) (by decide +kernel), List.mem_of_getElem? (i := 653) (by decide +kernel), List.mem_of_getElem? (i := 654) (by decide +kernel)⟩
theorem lw_p30 : lw_okq (⟨"WarpYard", "outCount", "(I)I"⟩, 15) := ⟨⟨by decide +kernel, by decide +kernel⟩, List.mem_of_getElem? (i := 14) (by decide +kernel), List.mem_of_getElem? (i := 672) (by decide +kernel), List.mem_of_getElem? (i := 673) (by decide +kernel)⟩
theorem lw_p31 : lw_okq (⟨"WarpYard", "settledEvents", "(IZ)I"⟩, 15) := ⟨⟨by decide +kernel, by decide +kernel⟩, List.mem_of_getElem? (i := 14) (by decide +kernel), List.mem_of_getElem? (i := 676) (by decide +kernel), List.mem_of_getElem? (i := 677) (by decide +kernel)⟩
def lw_privs_2 : List (MethodName × Nat) := [(⟨"WarpYard", "meet", "(LWarpYard$Event;)V"⟩, 15), (⟨"WarpYard", "sendShadows", "(II)V"⟩, 15), (⟨"WarpYard", "post", "(LWarpYard$Event;ZI)V"⟩, 15), (⟨"WarpYard", "eventComes", "(LWarpYard$Event;)V"⟩, 15), (⟨"WarpYard", "doNext", "(I)I"⟩, 15), (⟨"WarpYard", "leastThere", "(I)LWarpYard$Event;"⟩, 15), (⟨"WarpYard", "isBeyondLimit", "(LWarpYard$Event;)Z"⟩, 15), (⟨"WarpYard", "doEvent", "(LWarpYard$Event;)V"⟩, 15), (⟨"WarpYard", "handOver", "(I)V"⟩, 15), (⟨"WarpYard", "settledEnd", "(LWarpYard$Event;)I"⟩, 15), (⟨"WarpYard", "settledState", "(II)LWarpYard$State;"⟩, 15), (⟨"WarpYard", "thereAt", "(I)I"⟩, 15), (⟨"WarpYard", "waitingAt", "(I)I"⟩, 15), (⟨"WarpYard", "isEvent", "(I)Z"⟩, 15), (⟨"WarpYard", "outCount", "(I)I"⟩, 15), (⟨"WarpYard", "settledEvents", "(IZ)I"⟩, 15)]
theorem lw_r2 : ∀ q ∈ lw_privs_2, lw_okq q := List.forall_mem_cons.mpr ⟨lw_p16, List.forall_mem_cons.mpr ⟨lw_p17, List.forall_mem_cons.mpr ⟨lw_p18, List.forall_mem_cons.mpr ⟨lw_p19, List.forall_mem_cons.mpr ⟨lw_p20, List.forall_mem_cons.mpr ⟨lw_p21, List.forall_mem_cons.mpr ⟨lw_p22, List.forall_mem_cons.mpr ⟨lw_p23, List.forall_mem_cons.mpr ⟨lw_p24, List.forall_mem_cons.mpr ⟨lw_p25, List.forall_mem_cons.mpr ⟨lw_p26, List.forall_mem_cons.mpr ⟨lw_p27, List.forall_mem_cons.mpr ⟨lw_p28, List.forall_mem_cons.mpr ⟨lw_p29, List.forall_mem_cons.mpr ⟨lw_p30, List.forall_mem_cons.mpr ⟨lw_p31, fun _ h => absurd h List.not_mem_nil⟩⟩⟩⟩⟩⟩⟩⟩⟩⟩⟩⟩⟩⟩⟩⟩
theorem lw_p32 : lw_okq (⟨"WarpYard", "goToOut", "(I)Z"⟩, 15) := ⟨⟨by decide +kernel, by decide +kernel⟩, List.mem_of_getElem? (i := 14) (by decide +kernel), List.mem_of_getElem? (i := 684) (by decide +kernel), List.mem_of_getElem? (i := 685) (by decide +kernel)⟩
theorem lw_p33 : lw_okq (⟨"WarpYard", "firstSettledFailed", "()LWarpYard$Event;"⟩, 15) := ⟨⟨by decide +kernel, by decide +kernel⟩, List.mem_of_getElem? (i := 14) (by decide +kernel), List.mem_of_getElem? (i := 704) (by decide +kernel), List.mem_of_getElem? (i := 705) (by decide +kernel)⟩
theorem lw_p34 : lw_okq (⟨"WarpYard", "isOutOfPlain", "(I)Z"⟩, 15) := ⟨⟨by decide +kernel, by decide +kernel⟩, List.mem_of_getElem? (i := 14) (by decide +kernel), List.mem_of_getElem? (i := 733) (by decide +kernel), List.mem_of_getElem? (i := 734) (by decide +kernel)⟩
theorem lw_p35 : lw_okq (⟨"WarpYardModel", "isPart", "(I)Z"⟩, 68) := ⟨⟨by decide +kernel, by decide +kernel⟩, List.mem_of_getElem? (i := 745) (by decide +kernel), List.mem_of_getElem? (i := 967) (by decide +kernel), List.mem_of_getElem? (i := 968) (by decide +kernel)⟩
theorem lw_p36 : lw_okq (⟨"WarpYardModel", "findFloor", "()V"⟩, 68) := ⟨⟨by decide +kernel, by decide +kernel⟩, List.mem_of_getElem? (i := 745) (by decide +kernel), List.mem_of_getElem? (i := 980) (by decide +kernel), List.mem_of_getElem? (i := 981) (by decide +kernel)⟩
theorem lw_p37 : lw_okq (⟨"WarpYardModel", "lower", "(I)V"⟩, 68) := ⟨⟨by decide +kernel, by decide +kernel⟩, List.mem_of_getElem? (i := 745) (by decide +kernel), List.mem_of_getElem? (i := 984) (by decide +kernel), List.mem_of_getElem? (i := 985) (by decide +kernel)⟩
theorem lw_p38 : lw_okq (⟨"WarpYardModel", "compare", "(IIIII)I"⟩, 68) := ⟨⟨by decide +kernel, by decide +kernel⟩, List.mem_of_getElem? (i := 745) (by decide +kernel), List.mem_of_getElem? (i := 988) (by decide +kernel), List.mem_of_getElem? (i := 989) (by decide +kernel)⟩
theorem lw_p39 : lw_okq (⟨"WarpYardModel", "made", "(IIIII)I"⟩, 68) := ⟨⟨by decide +kernel, by decide +kernel⟩, List.mem_of_getElem? (i := 745) (by decide +kernel), List.mem_of_getElem? (i := 992) (by decide +kernel), List.mem_of_getElem? (i := 993) (by decide +kernel)⟩
theorem lw_p40 : lw_okq (⟨"WarpYardModel", "eventComes", "(I)V"⟩, 68) := ⟨⟨by decide +kernel, by decide +kernel⟩, List.mem_of_getElem? (i := 745) (by decide +kernel), List.mem_of_getElem? (i := 996) (by decide +kernel), List.mem_of_getElem? (i := 997) (by decide +kernel)⟩
theorem lw_p41 : lw_okq (⟨"WarpYardModel", "meet", "(I)V"⟩, 68) := ⟨⟨by decide +kernel, by decide +kernel⟩, List.mem_of_getElem? (i := 745) (by decide +kernel), List.mem_of_getElem? (i := 1000) (by decide +kernel), List.mem_of_getElem? (i := 1001) (by decide +kernel)⟩
theorem lw_p42 : lw_okq (⟨"WarpYardModel", "isBelow", "(II)Z"⟩, 68) := ⟨⟨by decide +kernel, by decide +kernel⟩, List.mem_of_getElem? (i := 745) (by decide +kernel), List.mem_of_getElem? (i := 1004) (by decide +kernel), List.mem_of_getElem? (i := 1005) (by decide +kernel)⟩
theorem lw_p43 : lw_okq (⟨"WarpYardModel", "keys", "(II)I"⟩, 68) := ⟨⟨by decide +kernel, by decide +kernel⟩, List.mem_of_getElem? (i := 745) (by decide +kernel), List.mem_of_getElem? (i := 1008) (by decide +kernel), List.mem_of_getElem? (i := 1009) (by decide +kernel)⟩
theorem lw_p44 : lw_okq (⟨"WarpYardModel", "back", "(I)V"⟩, 68) := ⟨⟨by decide +kernel, by decide +kernel⟩, List.mem_of_getElem? (i := 745) (by decide +kernel), List.mem_of_getElem? (i := 1012) (by decide +kernel), List.mem_of_getElem? (i := 1013) (by decide +kernel)⟩
theorem lw_p45 : lw_okq (⟨"WarpYardModel", "shadowsOf", "(II)V"⟩, 68) := ⟨⟨by decide +kernel, by decide +kernel⟩, List.mem_of_getElem? (i := 745) (by decide +kernel), List.mem_of_getElem? (i := 1016) (by decide +kernel), List.mem_of_getElem? (i := 1017) (by decide +kernel)⟩
theorem lw_p46 : lw_okq (⟨"WarpYardModel", "goes", "(III)V"⟩, 68) := ⟨⟨by decide +kernel, by decide +kernel⟩, List.mem_of_getElem? (i := 745) (by decide +kernel), List.mem_of_getElem? (i := 1020) (by decide +kernel), List.mem_of_getElem? (i := 1021) (by decide +kernel)⟩
theorem lw_p47 : lw_okq (⟨"WarpYardModel", "come", "()V"⟩, 68) := ⟨⟨by decide +kernel, by decide +kernel⟩, List.mem_of_getElem? (i := 745) (by decide +kernel), List.mem_of_getElem? (i := 1024) (by decide +kernel), List.mem_of_getElem? (i := 1025) (by decide +kernel)⟩
def lw_privs_3 : List (MethodName × Nat) := [(⟨"WarpYard", "goToOut", "(I)Z"⟩, 15), (⟨"WarpYard", "firstSettledFailed", "()LWarpYard$Event;"⟩, 15), (⟨"WarpYard", "isOutOfPlain", "(I)Z"⟩, 15), (⟨"WarpYardModel", "isPart", "(I)Z"⟩, 68), (⟨"WarpYardModel", "findFloor", "()V"⟩, 68), (⟨"WarpYardModel", "lower", "(I)V"⟩, 68), (⟨"WarpYardModel", "compare", "(IIIII)I"⟩, 68), (⟨"WarpYardModel", "made", "(IIIII)I"⟩, 68), (⟨"WarpYardModel", "eventComes", "(I)V"⟩, 68), (⟨"WarpYardModel", "meet", "(I)V"⟩, 68), (⟨"WarpYardModel", "isBelow", "(II)Z"⟩, 68), (⟨"WarpYardModel", "keys", "(II)I"⟩, 68), (⟨"WarpYardModel", "back", "(I)V"⟩, 68), (⟨"WarpYardModel", "shadowsOf", "(II)V"⟩, 68), (⟨"WarpYardModel", "goes", "(III)V"⟩, 68), (⟨"WarpYardModel", "come", "()V"⟩, 68)]
theorem lw_r3 : ∀ q ∈ lw_privs_3, lw_okq q := List.forall_mem_cons.mpr ⟨lw_p32, List.forall_mem_cons.mpr ⟨lw_p33, List.forall_mem_cons.mpr ⟨lw_p34, List.forall_mem_cons.mpr ⟨lw_p35, List.forall_mem_cons.mpr ⟨lw_p36, List.forall_mem_cons.mpr ⟨lw_p37, List.forall_mem_cons.mpr ⟨lw_p38, List.forall_mem_cons.mpr ⟨lw_p39, List.forall_mem_cons.mpr ⟨lw_p40, List.forall_mem_cons.mpr ⟨lw_p41, List.forall_mem_cons.mpr ⟨lw_p42, List.forall_mem_cons.mpr ⟨lw_p43, List.forall_mem_cons.mpr ⟨lw_p44, List.forall_mem_cons.mpr ⟨lw_p45, List.forall_mem_cons.mpr ⟨lw_p46, List.forall_mem_cons.mpr ⟨lw_p47, fun _ h => absurd h List.not_mem_nil⟩⟩⟩⟩⟩⟩⟩⟩⟩⟩⟩⟩⟩⟩⟩⟩
theorem lw_p48 : lw_okq (⟨"WarpYardModel", "shadowComes", "(I)V"⟩, 68) := ⟨⟨by decide +kernel, by decide +kernel⟩, List.mem_of_getElem? (i := 745) (by decide +kernel), List.mem_of_getElem? (i := 1028) (by decide +kernel), List.mem_of_getElem? (i := 1029) (by decide +kernel)⟩
theorem lw_p49 : lw_okq (⟨"WarpYardModel", "nextOf", "(I)I"⟩, 68) := ⟨⟨by decide +kernel, by decide +kernel⟩, List.mem_of_getElem? (i := 745) (by decide +kernel), List.mem_of_getElem? (i := 1036) (by decide +kernel), List.mem_of_getElem? (i := 1037) (by decide +kernel)⟩
theorem lw_p50 : lw_okq (⟨"WarpYardModel", "does", "(I)V"⟩, 68) := ⟨⟨by decide +kernel, by decide +kernel⟩, List.mem_of_getElem? (i := 745) (by decide +kernel), List.mem_of_getElem? (i := 1040) (by decide +kernel), List.mem_of_getElem? (i := 1041) (by decide +kernel)⟩
theorem lw_p51 : lw_okq (⟨"WarpYardModel", "state", "(II)V"⟩, 68) := ⟨⟨by decide +kernel, by decide +kernel⟩, List.mem_of_getElem? (i := 745) (by decide +kernel), List.mem_of_getElem? (i := 1044) (by decide +kernel), List.mem_of_getElem? (i := 1045) (by decide +kernel)⟩
theorem lw_p52 : lw_okq (⟨"WarpYardModel", "nothing", "()V"⟩, 68) := ⟨⟨by decide +kernel, by decide +kernel⟩, List.mem_of_getElem? (i := 745) (by decide +kernel), List.mem_of_getElem? (i := 1048) (by decide +kernel), List.mem_of_getElem? (i := 1049) (by decide +kernel)⟩
theorem lw_p53 : lw_okq (⟨"WarpYardModel", "acts", "(III)V"⟩, 68) := ⟨⟨by decide +kernel, by decide +kernel⟩, List.mem_of_getElem? (i := 745) (by decide +kernel), List.mem_of_getElem? (i := 1052) (by decide +kernel), List.mem_of_getElem? (i := 1053) (by decide +kernel)⟩
theorem lw_p54 : lw_okq (⟨"WarpYardModel", "one", "(IIII)V"⟩, 68) := ⟨⟨by decide +kernel, by decide +kernel⟩, List.mem_of_getElem? (i := 745) (by decide +kernel), List.mem_of_getElem? (i := 1056) (by decide +kernel), List.mem_of_getElem? (i := 1057) (by decide +kernel)⟩
theorem lw_p55 : lw_okq (⟨"WarpYardModel", "sends", "(IIII)V"⟩, 68) := ⟨⟨by decide +kernel, by decide +kernel⟩, List.mem_of_getElem? (i := 745) (by decide +kernel), List.mem_of_getElem? (i := 1060) (by decide +kernel), List.mem_of_getElem? (i := 1061) (by decide +kernel)⟩
theorem lw_p56 : lw_okq (⟨"WarpYardModel", "draws", "(II)V"⟩, 68) := ⟨⟨by decide +kernel, by decide +kernel⟩, List.mem_of_getElem? (i := 745) (by decide +kernel), List.mem_of_getElem? (i := 1064) (by decide +kernel), List.mem_of_getElem? (i := 1065) (by decide +kernel)⟩
theorem lw_p57 : lw_okq (⟨"WarpYardModel", "comes", "(I)I"⟩, 68) := ⟨⟨by decide +kernel, by decide +kernel⟩, List.mem_of_getElem? (i := 745) (by decide +kernel), List.mem_of_getElem? (i := 1077) (by decide +kernel), List.mem_of_getElem? (i := 1078) (by decide +kernel)⟩
theorem lw_p58 : lw_okq (⟨"WarpYardModel", "settledOf", "(I)I"⟩, 68) := ⟨⟨by decide +kernel, by decide +kernel⟩, List.mem_of_getElem? (i := 745) (by decide +kernel), List.mem_of_getElem? (i := 1109) (by decide +kernel), List.mem_of_getElem? (i := 1110) (by decide +kernel)⟩
theorem lw_p59 : lw_okq (⟨"WarpYardModel", "isSettled", "(I)Z"⟩, 68) := ⟨⟨by decide +kernel, by decide +kernel⟩, List.mem_of_getElem? (i := 745) (by decide +kernel), List.mem_of_getElem? (i := 1113) (by decide +kernel), List.mem_of_getElem? (i := 1114) (by decide +kernel)⟩
theorem lw_p60 : lw_okq (⟨"WarpYardModel", "thereOf", "(I)I"⟩, 68) := ⟨⟨by decide +kernel, by decide +kernel⟩, List.mem_of_getElem? (i := 745) (by decide +kernel), List.mem_of_getElem? (i := 1121) (by decide +kernel), List.mem_of_getElem? (i := 1122) (by decide +kernel)⟩
theorem lw_p61 : lw_okq (⟨"WarpYardModel", "waiting", "(I)I"⟩, 68) := ⟨⟨by decide +kernel, by decide +kernel⟩, List.mem_of_getElem? (i := 745) (by decide +kernel), List.mem_of_getElem? (i := 1125) (by decide +kernel), List.mem_of_getElem? (i := 1126) (by decide +kernel)⟩
theorem lw_p62 : lw_okq (⟨"WarpYardModel", "settle", "()V"⟩, 68) := ⟨⟨by decide +kernel, by decide +kernel⟩, List.mem_of_getElem? (i := 745) (by decide +kernel), List.mem_of_getElem? (i := 1145) (by decide +kernel), List.mem_of_getElem? (i := 1146) (by decide +kernel)⟩
theorem lw_p63 : lw_okq (⟨"WarpYardModel", "outOf", "(I)I"⟩, 68) := ⟨⟨by decide +kernel, by decide +kernel⟩, List.mem_of_getElem? (i := 745) (by decide +kernel), List.mem_of_getElem? (i := 1153) (by decide +kernel), List.mem_of_getElem? (i := 1154) (by decide +kernel)⟩
def lw_privs_4 : List (MethodName × Nat) := [(⟨"WarpYardModel", "shadowComes", "(I)V"⟩, 68), (⟨"WarpYardModel", "nextOf", "(I)I"⟩, 68), (⟨"WarpYardModel", "does", "(I)V"⟩, 68), (⟨"WarpYardModel", "state", "(II)V"⟩, 68), (⟨"WarpYardModel", "nothing", "()V"⟩, 68), (⟨"WarpYardModel", "acts", "(III)V"⟩, 68), (⟨"WarpYardModel", "one", "(IIII)V"⟩, 68), (⟨"WarpYardModel", "sends", "(IIII)V"⟩, 68), (⟨"WarpYardModel", "draws", "(II)V"⟩, 68), (⟨"WarpYardModel", "comes", "(I)I"⟩, 68), (⟨"WarpYardModel", "settledOf", "(I)I"⟩, 68), (⟨"WarpYardModel", "isSettled", "(I)Z"⟩, 68), (⟨"WarpYardModel", "thereOf", "(I)I"⟩, 68), (⟨"WarpYardModel", "waiting", "(I)I"⟩, 68), (⟨"WarpYardModel", "settle", "()V"⟩, 68), (⟨"WarpYardModel", "outOf", "(I)I"⟩, 68)]
theorem lw_r4 : ∀ q ∈ lw_privs_4, lw_okq q := List.forall_mem_cons.mpr ⟨lw_p48, List.forall_mem_cons.mpr ⟨lw_p49, List.forall_mem_cons.mpr ⟨lw_p50, List.forall_mem_cons.mpr ⟨lw_p51, List.forall_mem_cons.mpr ⟨lw_p52, List.forall_mem_cons.mpr ⟨lw_p53, List.forall_mem_cons.mpr ⟨lw_p54, List.forall_mem_cons.mpr ⟨lw_p55, List.forall_mem_cons.mpr ⟨lw_p56, List.forall_mem_cons.mpr ⟨lw_p57, List.forall_mem_cons.mpr ⟨lw_p58, List.forall_mem_cons.mpr ⟨lw_p59, List.forall_mem_cons.mpr ⟨lw_p60, List.forall_mem_cons.mpr ⟨lw_p61, List.forall_mem_cons.mpr ⟨lw_p62, List.forall_mem_cons.mpr ⟨lw_p63, fun _ h => absurd h List.not_mem_nil⟩⟩⟩⟩⟩⟩⟩⟩⟩⟩⟩⟩⟩⟩⟩⟩
theorem lw_p64 : lw_okq (⟨"WarpYardModel", "plain", "(IIIII)V"⟩, 68) := ⟨⟨by decide +kernel, by decide +kernel⟩, List.mem_of_getElem? (i := 745) (by decide +kernel), List.mem_of_getElem? (i := 1169) (by decide +kernel), List.mem_of_getElem? (i := 1170) (by decide +kernel)⟩
theorem lw_p65 : lw_okq (⟨"WarpYardModel", "nextPlain", "()I"⟩, 68) := ⟨⟨by decide +kernel, by decide +kernel⟩, List.mem_of_getElem? (i := 745) (by decide +kernel), List.mem_of_getElem? (i := 1173) (by decide +kernel), List.mem_of_getElem? (i := 1174) (by decide +kernel)⟩
theorem lw_p66 : lw_okq (⟨"WarpYardModel", "isLower", "(IIIII)Z"⟩, 68) := ⟨⟨by decide +kernel, by decide +kernel⟩, List.mem_of_getElem? (i := 745) (by decide +kernel), List.mem_of_getElem? (i := 1177) (by decide +kernel), List.mem_of_getElem? (i := 1178) (by decide +kernel)⟩
theorem lw_p67 : lw_okq (⟨"WarpYardModel", "plainDoes", "(I)V"⟩, 68) := ⟨⟨by decide +kernel, by decide +kernel⟩, List.mem_of_getElem? (i := 745) (by decide +kernel), List.mem_of_getElem? (i := 1181) (by decide +kernel), List.mem_of_getElem? (i := 1182) (by decide +kernel)⟩
def lw_privs_5 : List (MethodName × Nat) := [(⟨"WarpYardModel", "plain", "(IIIII)V"⟩, 68), (⟨"WarpYardModel", "nextPlain", "()I"⟩, 68), (⟨"WarpYardModel", "isLower", "(IIIII)Z"⟩, 68), (⟨"WarpYardModel", "plainDoes", "(I)V"⟩, 68)]
theorem lw_r5 : ∀ q ∈ lw_privs_5, lw_okq q := List.forall_mem_cons.mpr ⟨lw_p64, List.forall_mem_cons.mpr ⟨lw_p65, List.forall_mem_cons.mpr ⟨lw_p66, List.forall_mem_cons.mpr ⟨lw_p67, fun _ h => absurd h List.not_mem_nil⟩⟩⟩⟩
def lw_privs : List (MethodName × Nat) := lw_privs_1 ++ (lw_privs_2 ++ (lw_privs_3 ++ (lw_privs_4 ++ (lw_privs_5))))
def lw_tbl : List Cond := k2_sels lw_privs ++ tables_1
theorem lw_privs_ok : ∀ q ∈ lw_privs, lw_okq q := by
  show ∀ q ∈ lw_privs_1 ++ (lw_privs_2 ++ (lw_privs_3 ++ (lw_privs_4 ++ (lw_privs_5)))), lw_okq q
  exact List.forall_mem_append.mpr ⟨lw_r1, List.forall_mem_append.mpr ⟨lw_r2, List.forall_mem_append.mpr ⟨lw_r3, List.forall_mem_append.mpr ⟨lw_r4, lw_r5⟩⟩⟩⟩

theorem in_r {big : List Cond} (ws : List Cond) (ps : List Nat) (hp : ws = ps.filterMap (fun i => big[i]?)) : ∀ w ∈ ws, w ∈ big := by
  intro w hw
  rw [hp] at hw
  obtain ⟨i, -, hi⟩ := List.mem_filterMap.mp hw
  exact List.mem_of_getElem? hi
def RX0 : String := "WarpYard$Doing"
def TX0 : u_T := fun k => match k with
  | 0 => ("WarpYard$Doing", "sentPart", "[I", true)
  | 1 => ("WarpYard$Doing", "sentMinute", "[I", true)
  | 2 => ("WarpYard$Doing", "sentX", "[I", true)
  | 3 => ("WarpYard$Doing", "sentCount", "I", false)
  | 4 => ("WarpYard$Doing", "sentBefore", "I", false)
  | 5 => ("WarpYard$Doing", "printed", "[I", true)
  | 6 => ("WarpYard$Doing", "printCount", "I", false)
  | _ => ("WarpYard$Doing", "failure", "I", false)
def tyX0 : Nat → FieldType := fun k => match k with
  | 0 => .array .int
  | 1 => .array .int
  | 2 => .array .int
  | 3 => .int
  | 4 => .int
  | 5 => .array .int
  | 6 => .int
  | _ => .int
abbrev wsX00 : List Cond := u_ws RX0 TX0 8
theorem nmX0 : ∀ a, a < 8 → ∀ b, b < 8 → a ≠ b → (TX0 a).2.1 ≠ (TX0 b).2.1 := by decide +kernel
theorem tyX0_ok : ∀ k, k < 8 → parseFieldDescriptor (TX0 k).2.2.1 = some (tyX0 k) := by decide +kernel
theorem inX0 : ∀ w ∈ wsX00, w ∈ lw_tbl := in_r _ [161, 163, 165, 167, 169, 171, 173, 175] (by decide +kernel)
def RX1 : String := "WarpYard$Event"
def TX1 : u_T := fun k => match k with
  | 0 => ("WarpYard$Event", "number", "I", true)
  | 1 => ("WarpYard$Event", "part", "I", false)
  | 2 => ("WarpYard$Event", "minute", "I", false)
  | 3 => ("WarpYard$Event", "senderMinute", "I", false)
  | 4 => ("WarpYard$Event", "sender", "I", false)
  | 5 => ("WarpYard$Event", "count", "I", false)
  | 6 => ("WarpYard$Event", "x", "I", false)
  | 7 => ("WarpYard$Event", "how", "I", false)
  | 8 => ("WarpYard$Event", "shadow", "I", false)
  | 9 => ("WarpYard$Event", "failure", "I", false)
  | 10 => ("WarpYard$Event", "printed", "[I", true)
  | 11 => ("WarpYard$Event", "printCount", "I", false)
  | 12 => ("WarpYard$Event", "firstSent", "I", false)
  | 13 => ("WarpYard$Event", "sentCount", "I", false)
  | 14 => ("WarpYard$Event", "ahead", "LWarpYard$State;", false)
  | _ => ("WarpYard$Event", "isKept", "Z", false)
def tyX1 : Nat → FieldType := fun k => match k with
  | 0 => .int
  | 1 => .int
  | 2 => .int
  | 3 => .int
  | 4 => .int
  | 5 => .int
  | 6 => .int
  | 7 => .int
  | 8 => .int
  | 9 => .int
  | 10 => .array .int
  | 11 => .int
  | 12 => .int
  | 13 => .int
  | 14 => .object "WarpYard$State"
  | _ => .boolean
abbrev wsX10 : List Cond := u_ws RX1 TX1 16
theorem nmX1 : ∀ a, a < 16 → ∀ b, b < 16 → a ≠ b → (TX1 a).2.1 ≠ (TX1 b).2.1 := by decide +kernel
theorem tyX1_ok : ∀ k, k < 16 → parseFieldDescriptor (TX1 k).2.2.1 = some (tyX1 k) := by decide +kernel
theorem inX1 : ∀ w ∈ wsX10, w ∈ lw_tbl := in_r _ [469, 471, 473, 475, 477, 479, 481, 483, 485, 487, 489, 491, 493, 495, 497, 499] (by decide +kernel)
def RX2 : String := "WarpYard$Order"
def TX2 : u_T := fun k => match k with
  | 0 => ("WarpYard$Order", "event", "[LWarpYard$Event;", true)
  | _ => ("WarpYard$Order", "size", "I", false)
def tyX2 : Nat → FieldType := fun k => match k with
  | 0 => .array (.object "WarpYard$Event")
  | _ => .int
abbrev wsX20 : List Cond := u_ws RX2 TX2 2
theorem nmX2 : ∀ a, a < 2 → ∀ b, b < 2 → a ≠ b → (TX2 a).2.1 ≠ (TX2 b).2.1 := by decide +kernel
theorem tyX2_ok : ∀ k, k < 2 → parseFieldDescriptor (TX2 k).2.2.1 = some (tyX2 k) := by decide +kernel
theorem inX2 : ∀ w ∈ wsX20, w ∈ lw_tbl := in_r _ [108, 110] (by decide +kernel)
def RX3 : String := "WarpYard$Part"
def TX3 : u_T := fun k => match k with
  | 0 => ("WarpYard$Part", "line", "I", false)
  | 1 => ("WarpYard$Part", "state", "LWarpYard$State;", true)
  | 2 => ("WarpYard$Part", "row", "[I", true)
  | 3 => ("WarpYard$Part", "rowCount", "I", false)
  | 4 => ("WarpYard$Part", "act", "[I", true)
  | 5 => ("WarpYard$Part", "a", "[I", true)
  | 6 => ("WarpYard$Part", "b", "[I", true)
  | 7 => ("WarpYard$Part", "c", "[I", true)
  | 8 => ("WarpYard$Part", "actCount", "I", false)
  | 9 => ("WarpYard$Part", "did", "I", false)
  | 10 => ("WarpYard$Part", "done", "I", false)
  | _ => ("WarpYard$Part", "takenBack", "I", false)
def tyX3 : Nat → FieldType := fun k => match k with
  | 0 => .int
  | 1 => .object "WarpYard$State"
  | 2 => .array .int
  | 3 => .int
  | 4 => .array .int
  | 5 => .array .int
  | 6 => .array .int
  | 7 => .array .int
  | 8 => .int
  | 9 => .int
  | 10 => .int
  | _ => .int
abbrev wsX30 : List Cond := u_ws RX3 TX3 12
theorem nmX3 : ∀ a, a < 12 → ∀ b, b < 12 → a ≠ b → (TX3 a).2.1 ≠ (TX3 b).2.1 := by decide +kernel
theorem tyX3_ok : ∀ k, k < 12 → parseFieldDescriptor (TX3 k).2.2.1 = some (tyX3 k) := by decide +kernel
theorem inX3 : ∀ w ∈ wsX30, w ∈ lw_tbl := in_r _ [359, 361, 363, 365, 367, 369, 371, 373, 375, 377, 379, 381] (by decide +kernel)
def RX4 : String := "WarpYard$Plain"
def TX4 : u_T := fun k => match k with
  | 0 => ("WarpYard$Plain", "states", "[LWarpYard$State;", true)
  | 1 => ("WarpYard$Plain", "order", "LWarpYard$Order;", true)
  | 2 => ("WarpYard$Plain", "out", "LWarpYard$Walk;", true)
  | 3 => ("WarpYard$Plain", "doing", "LWarpYard$Doing;", true)
  | 4 => ("WarpYard$Plain", "doneCount", "I", false)
  | 5 => ("WarpYard$Plain", "failedCount", "I", false)
  | 6 => ("WarpYard$Plain", "overflowed", "Z", false)
  | _ => ("WarpYard$Plain", "pool", "[LWarpYard$Event;", true)
def tyX4 : Nat → FieldType := fun k => match k with
  | 0 => .array (.object "WarpYard$State")
  | 1 => .object "WarpYard$Order"
  | 2 => .object "WarpYard$Walk"
  | 3 => .object "WarpYard$Doing"
  | 4 => .int
  | 5 => .int
  | 6 => .boolean
  | _ => .array (.object "WarpYard$Event")
abbrev wsX40 : List Cond := u_ws RX4 TX4 8
theorem nmX4 : ∀ a, a < 8 → ∀ b, b < 8 → a ≠ b → (TX4 a).2.1 ≠ (TX4 b).2.1 := by decide +kernel
theorem tyX4_ok : ∀ k, k < 8 → parseFieldDescriptor (TX4 k).2.2.1 = some (tyX4 k) := by decide +kernel
theorem inX4 : ∀ w ∈ wsX40, w ∈ lw_tbl := in_r _ [258, 260, 262, 264, 266, 268, 270, 272] (by decide +kernel)
def RX5 : String := "WarpYard$Posts"
def TX5 : u_T := fun k => match k with
  | 0 => ("WarpYard$Posts", "event", "[LWarpYard$Event;", true)
  | 1 => ("WarpYard$Posts", "shadow", "[Z", true)
  | _ => ("WarpYard$Posts", "size", "I", false)
def tyX5 : Nat → FieldType := fun k => match k with
  | 0 => .array (.object "WarpYard$Event")
  | 1 => .array .boolean
  | _ => .int
abbrev wsX50 : List Cond := u_ws RX5 TX5 3
theorem nmX5 : ∀ a, a < 3 → ∀ b, b < 3 → a ≠ b → (TX5 a).2.1 ≠ (TX5 b).2.1 := by decide +kernel
theorem tyX5_ok : ∀ k, k < 3 → parseFieldDescriptor (TX5 k).2.2.1 = some (tyX5 k) := by decide +kernel
theorem inX5 : ∀ w ∈ wsX50, w ∈ lw_tbl := in_r _ [126, 128, 130] (by decide +kernel)
def RX6 : String := "WarpYard$Walk"
def TX6 : u_T := fun k => match k with
  | 0 => ("WarpYard$Walk", "part", "I", false)
  | 1 => ("WarpYard$Walk", "minute", "I", false)
  | 2 => ("WarpYard$Walk", "value", "I", false)
  | 3 => ("WarpYard$Walk", "end", "I", false)
  | 4 => ("WarpYard$Walk", "place", "I", false)
  | _ => ("WarpYard$Walk", "next", "I", false)
def tyX6 : Nat → FieldType := fun k => match k with
  | 0 => .int
  | 1 => .int
  | 2 => .int
  | 3 => .int
  | 4 => .int
  | _ => .int
abbrev wsX60 : List Cond := u_ws RX6 TX6 6
theorem nmX6 : ∀ a, a < 6 → ∀ b, b < 6 → a ≠ b → (TX6 a).2.1 ≠ (TX6 b).2.1 := by decide +kernel
theorem tyX6_ok : ∀ k, k < 6 → parseFieldDescriptor (TX6 k).2.2.1 = some (tyX6 k) := by decide +kernel
theorem inX6 : ∀ w ∈ wsX60, w ∈ lw_tbl := in_r _ [216, 218, 220, 222, 224, 226] (by decide +kernel)
def RX7 : String := "WarpYard$State"
def TX7 : u_T := fun k => match k with
  | 0 => ("WarpYard$State", "cells", "[I", true)
  | 1 => ("WarpYard$State", "drew", "I", false)
  | _ => ("WarpYard$State", "sent", "I", false)
def tyX7 : Nat → FieldType := fun k => match k with
  | 0 => .array .int
  | 1 => .int
  | _ => .int
abbrev wsX70 : List Cond := u_ws RX7 TX7 3
theorem nmX7 : ∀ a, a < 3 → ∀ b, b < 3 → a ≠ b → (TX7 a).2.1 ≠ (TX7 b).2.1 := by decide +kernel
theorem tyX7_ok : ∀ k, k < 3 → parseFieldDescriptor (TX7 k).2.2.1 = some (tyX7 k) := by decide +kernel
theorem inX7 : ∀ w ∈ wsX70, w ∈ lw_tbl := in_r _ [194, 196, 198] (by decide +kernel)
def RX8 : String := "WarpYard"
def TX8 : u_T := fun k => match k with
  | 0 => ("WarpYard", "parts", "[LWarpYard$Part;", true)
  | 1 => ("WarpYard", "partCount", "I", false)
  | 2 => ("WarpYard", "events", "[LWarpYard$Event;", true)
  | 3 => ("WarpYard", "order", "LWarpYard$Order;", true)
  | 4 => ("WarpYard", "onTheWay", "LWarpYard$Posts;", true)
  | 5 => ("WarpYard", "atOnce", "LWarpYard$Posts;", true)
  | 6 => ("WarpYard", "doing", "LWarpYard$Doing;", true)
  | 7 => ("WarpYard", "spare", "LWarpYard$State;", true)
  | 8 => ("WarpYard", "out", "LWarpYard$Walk;", true)
  | 9 => ("WarpYard", "plain", "LWarpYard$Plain;", true)
  | 10 => ("WarpYard", "starts", "I", false)
  | 11 => ("WarpYard", "shadowsSent", "I", false)
  | 12 => ("WarpYard", "pairsMet", "I", false)
  | 13 => ("WarpYard", "limit", "I", false)
  | _ => ("WarpYard", "keepEach", "I", false)
def tyX8 : Nat → FieldType := fun k => match k with
  | 0 => .array (.object "WarpYard$Part")
  | 1 => .int
  | 2 => .array (.object "WarpYard$Event")
  | 3 => .object "WarpYard$Order"
  | 4 => .object "WarpYard$Posts"
  | 5 => .object "WarpYard$Posts"
  | 6 => .object "WarpYard$Doing"
  | 7 => .object "WarpYard$State"
  | 8 => .object "WarpYard$Walk"
  | 9 => .object "WarpYard$Plain"
  | 10 => .int
  | 11 => .int
  | 12 => .int
  | 13 => .int
  | _ => .int
abbrev wsX80 : List Cond := u_ws RX8 TX8 15
theorem nmX8 : ∀ a, a < 15 → ∀ b, b < 15 → a ≠ b → (TX8 a).2.1 ≠ (TX8 b).2.1 := by decide +kernel
theorem tyX8_ok : ∀ k, k < 15 → parseFieldDescriptor (TX8 k).2.2.1 = some (tyX8 k) := by decide +kernel
theorem inX8 : ∀ w ∈ wsX80, w ∈ lw_tbl := in_r _ [290, 292, 294, 296, 298, 300, 302, 304, 306, 308, 310, 312, 314, 316, 318] (by decide +kernel)
def RX9 : String := "WarpYardModel"
def TX9 : u_T := fun k => match k with
  | 0 => ("WarpYardModel", "parts", "I", false)
  | 1 => ("WarpYardModel", "line", "[I", true)
  | 2 => ("WarpYardModel", "rowMany", "[I", true)
  | 3 => ("WarpYardModel", "row", "[I", true)
  | 4 => ("WarpYardModel", "ruleMany", "[I", true)
  | 5 => ("WarpYardModel", "act", "[I", true)
  | 6 => ("WarpYardModel", "ra", "[I", true)
  | 7 => ("WarpYardModel", "rb", "[I", true)
  | 8 => ("WarpYardModel", "rc", "[I", true)
  | 9 => ("WarpYardModel", "did", "[I", true)
  | 10 => ("WarpYardModel", "taken", "[I", true)
  | 11 => ("WarpYardModel", "doneMany", "[I", true)
  | 12 => ("WarpYardModel", "doneRow", "[I", true)
  | 13 => ("WarpYardModel", "events", "I", false)
  | 14 => ("WarpYardModel", "starts", "I", false)
  | 15 => ("WarpYardModel", "part", "[I", true)
  | 16 => ("WarpYardModel", "minute", "[I", true)
  | 17 => ("WarpYardModel", "before", "[I", true)
  | 18 => ("WarpYardModel", "sender", "[I", true)
  | 19 => ("WarpYardModel", "place", "[I", true)
  | 20 => ("WarpYardModel", "x", "[I", true)
  | 21 => ("WarpYardModel", "how", "[I", true)
  | 22 => ("WarpYardModel", "hasShadow", "[Z", true)
  | 23 => ("WarpYardModel", "fails", "[I", true)
  | 24 => ("WarpYardModel", "prints", "[I", true)
  | 25 => ("WarpYardModel", "print", "[I", true)
  | 26 => ("WarpYardModel", "sents", "[I", true)
  | 27 => ("WarpYardModel", "sent", "[I", true)
  | 28 => ("WarpYardModel", "ways", "I", false)
  | 29 => ("WarpYardModel", "way", "[I", true)
  | 30 => ("WarpYardModel", "comings", "I", false)
  | 31 => ("WarpYardModel", "coming", "[I", true)
  | 32 => ("WarpYardModel", "limit", "I", false)
  | 33 => ("WarpYardModel", "shadows", "I", false)
  | 34 => ("WarpYardModel", "met", "I", false)
  | 35 => ("WarpYardModel", "cells", "[I", true)
  | 36 => ("WarpYardModel", "drew", "I", false)
  | 37 => ("WarpYardModel", "sentCount", "I", false)
  | 38 => ("WarpYardModel", "fail", "I", false)
  | 39 => ("WarpYardModel", "outs", "I", false)
  | 40 => ("WarpYardModel", "outPart", "[I", true)
  | 41 => ("WarpYardModel", "outMinute", "[I", true)
  | 42 => ("WarpYardModel", "outX", "[I", true)
  | 43 => ("WarpYardModel", "printed", "I", false)
  | 44 => ("WarpYardModel", "printedRow", "[I", true)
  | 45 => ("WarpYardModel", "floorMinute", "I", false)
  | 46 => ("WarpYardModel", "floorBefore", "I", false)
  | 47 => ("WarpYardModel", "floorSender", "I", false)
  | 48 => ("WarpYardModel", "floorPlace", "I", false)
  | 49 => ("WarpYardModel", "hasFloor", "Z", false)
  | 50 => ("WarpYardModel", "settledMany", "I", false)
  | 51 => ("WarpYardModel", "settledRow", "[I", true)
  | 52 => ("WarpYardModel", "outMany", "I", false)
  | 53 => ("WarpYardModel", "failedMany", "I", false)
  | 54 => ("WarpYardModel", "outPlace", "I", false)
  | 55 => ("WarpYardModel", "plains", "I", false)
  | 56 => ("WarpYardModel", "plPart", "[I", true)
  | 57 => ("WarpYardModel", "plMinute", "[I", true)
  | 58 => ("WarpYardModel", "plBefore", "[I", true)
  | 59 => ("WarpYardModel", "plSender", "[I", true)
  | 60 => ("WarpYardModel", "plPlace", "[I", true)
  | 61 => ("WarpYardModel", "plX", "[I", true)
  | 62 => ("WarpYardModel", "plDone", "[Z", true)
  | 63 => ("WarpYardModel", "plCell", "[I", true)
  | 64 => ("WarpYardModel", "plDrew", "[I", true)
  | 65 => ("WarpYardModel", "plSent", "[I", true)
  | 66 => ("WarpYardModel", "isSame", "Z", false)
  | _ => ("WarpYardModel", "plOut", "I", false)
def tyX9 : Nat → FieldType := fun k => match k with
  | 0 => .int
  | 1 => .array .int
  | 2 => .array .int
  | 3 => .array .int
  | 4 => .array .int
  | 5 => .array .int
  | 6 => .array .int
  | 7 => .array .int
  | 8 => .array .int
  | 9 => .array .int
  | 10 => .array .int
  | 11 => .array .int
  | 12 => .array .int
  | 13 => .int
  | 14 => .int
  | 15 => .array .int
  | 16 => .array .int
  | 17 => .array .int
  | 18 => .array .int
  | 19 => .array .int
  | 20 => .array .int
  | 21 => .array .int
  | 22 => .array .boolean
  | 23 => .array .int
  | 24 => .array .int
  | 25 => .array .int
  | 26 => .array .int
  | 27 => .array .int
  | 28 => .int
  | 29 => .array .int
  | 30 => .int
  | 31 => .array .int
  | 32 => .int
  | 33 => .int
  | 34 => .int
  | 35 => .array .int
  | 36 => .int
  | 37 => .int
  | 38 => .int
  | 39 => .int
  | 40 => .array .int
  | 41 => .array .int
  | 42 => .array .int
  | 43 => .int
  | 44 => .array .int
  | 45 => .int
  | 46 => .int
  | 47 => .int
  | 48 => .int
  | 49 => .boolean
  | 50 => .int
  | 51 => .array .int
  | 52 => .int
  | 53 => .int
  | 54 => .int
  | 55 => .int
  | 56 => .array .int
  | 57 => .array .int
  | 58 => .array .int
  | 59 => .array .int
  | 60 => .array .int
  | 61 => .array .int
  | 62 => .array .boolean
  | 63 => .array .int
  | 64 => .array .int
  | 65 => .array .int
  | 66 => .boolean
  | _ => .int
abbrev wsX90 : List Cond := u_ws RX9 TX9 68
theorem nmX9 : ∀ a, a < 68 → ∀ b, b < 68 → a ≠ b → (TX9 a).2.1 ≠ (TX9 b).2.1 := by decide +kernel
theorem tyX9_ok : ∀ k, k < 68 → parseFieldDescriptor (TX9 k).2.2.1 = some (tyX9 k) := by decide +kernel
theorem inX9 : ∀ w ∈ wsX90, w ∈ lw_tbl := in_r _ [886, 888, 890, 892, 894, 896, 898, 900, 902, 904, 906, 908, 910, 912, 914, 916, 918, 920, 922, 924, 926, 928, 930, 932, 934, 936, 938, 940, 942, 944, 946, 948, 950, 952, 954, 956, 958, 960, 962, 964, 966, 968, 970, 972, 974, 976, 978, 980, 982, 984, 986, 988, 990, 992, 994, 996, 998, 1000, 1002, 1004, 1006, 1008, 1010, 1012, 1014, 1016, 1018, 1020] (by decide +kernel)
def RJ6 : String := "java/lang/Integer"
def RJ9 : String := "java/lang/Math"
def RL : String := "WarpYardLaw"
abbrev cX0_init : ByteArray := prog_2_method_1_code
def yX0_init : MethodName := ⟨RX0, "<init>", "()V"⟩
abbrev cX0_perform : ByteArray := prog_2_method_2_code
def yX0_perform : MethodName := ⟨RX0, "perform", "(LWarpYard$Part;LWarpYard$State;LWarpYard$Event;I)V"⟩
abbrev cX0_begin : ByteArray := prog_2_method_3_code
def yX0_begin : MethodName := ⟨RX0, "begin", "(LWarpYard$State;)V"⟩
abbrev cX0_send : ByteArray := prog_2_method_4_code
def yX0_send : MethodName := ⟨RX0, "send", "(LWarpYard$State;IIII)V"⟩
abbrev cX0_draw : ByteArray := prog_2_method_5_code
def yX0_draw : MethodName := ⟨RX0, "draw", "(LWarpYard$Part;LWarpYard$State;I)V"⟩
abbrev cX0_divide : ByteArray := prog_2_method_6_code
def yX0_divide : MethodName := ⟨RX0, "divide", "([III)V"⟩
abbrev cX0_measure : ByteArray := prog_2_method_7_code
def yX0_measure : MethodName := ⟨RX0, "measure", "([III)V"⟩
abbrev cX1_init : ByteArray := prog_3_method_1_code
def yX1_init : MethodName := ⟨RX1, "<init>", "(I)V"⟩
abbrev cX1_set : ByteArray := prog_3_method_2_code
def yX1_set : MethodName := ⟨RX1, "set", "(IIIIII)V"⟩
abbrev cX1_keepAhead : ByteArray := prog_3_method_3_code
def yX1_keepAhead : MethodName := ⟨RX1, "keepAhead", "(LWarpYard$State;Z)V"⟩
abbrev cX1_takeResults : ByteArray := prog_3_method_4_code
def yX1_takeResults : MethodName := ⟨RX1, "takeResults", "(LWarpYard$Doing;)V"⟩
abbrev cX1_undo : ByteArray := prog_3_method_5_code
def yX1_undo : MethodName := ⟨RX1, "undo", "()V"⟩
abbrev cX1_isOpen : ByteArray := prog_3_method_6_code
def yX1_isOpen : MethodName := ⟨RX1, "isOpen", "()Z"⟩
abbrev cX1_keyItem : ByteArray := prog_3_method_7_code
def yX1_keyItem : MethodName := ⟨RX1, "keyItem", "(I)I"⟩
abbrev cX1_isBelow : ByteArray := prog_3_method_8_code
def yX1_isBelow : MethodName := ⟨RX1, "isBelow", "(LWarpYard$Event;)Z"⟩
abbrev cX1_compareKeys : ByteArray := prog_3_method_9_code
def yX1_compareKeys : MethodName := ⟨RX1, "compareKeys", "(LWarpYard$Event;)I"⟩
abbrev cX2_init : ByteArray := prog_4_method_1_code
def yX2_init : MethodName := ⟨RX2, "<init>", "()V"⟩
abbrev cX2_insert : ByteArray := prog_4_method_2_code
def yX2_insert : MethodName := ⟨RX2, "insert", "(LWarpYard$Event;)V"⟩
abbrev cX2_placeOf : ByteArray := prog_4_method_3_code
def yX2_placeOf : MethodName := ⟨RX2, "placeOf", "(LWarpYard$Event;)I"⟩
abbrev cX3_init : ByteArray := prog_5_method_1_code
def yX3_init : MethodName := ⟨RX3, "<init>", "(I)V"⟩
abbrev cX3_addToRow : ByteArray := prog_5_method_2_code
def yX3_addToRow : MethodName := ⟨RX3, "addToRow", "(I)I"⟩
abbrev cX3_addAct : ByteArray := prog_5_method_3_code
def yX3_addAct : MethodName := ⟨RX3, "addAct", "(IIII)I"⟩
abbrev cX4_init : ByteArray := prog_6_method_1_code
def yX4_init : MethodName := ⟨RX4, "<init>", "()V"⟩
abbrev cX4_begin : ByteArray := prog_6_method_2_code
def yX4_begin : MethodName := ⟨RX4, "begin", "(I)V"⟩
abbrev cX4_add : ByteArray := prog_6_method_3_code
def yX4_add : MethodName := ⟨RX4, "add", "(IIIIII)V"⟩
abbrev cX4_goUpTo : ByteArray := prog_6_method_4_code
def yX4_goUpTo : MethodName := ⟨RX4, "goUpTo", "(LWarpYard$Event;[LWarpYard$Part;I)V"⟩
abbrev cX5_init : ByteArray := prog_7_method_1_code
def yX5_init : MethodName := ⟨RX5, "<init>", "()V"⟩
abbrev cX5_add : ByteArray := prog_7_method_2_code
def yX5_add : MethodName := ⟨RX5, "add", "(LWarpYard$Event;Z)V"⟩
abbrev cX5_removeAt : ByteArray := prog_7_method_3_code
def yX5_removeAt : MethodName := ⟨RX5, "removeAt", "(I)V"⟩
abbrev cX6_init : ByteArray := prog_9_method_1_code
def yX6_init : MethodName := ⟨RX6, "<init>", "()V"⟩
abbrev cX6_begin : ByteArray := prog_9_method_2_code
def yX6_begin : MethodName := ⟨RX6, "begin", "(I)V"⟩
abbrev cX6_goOn : ByteArray := prog_9_method_3_code
def yX6_goOn : MethodName := ⟨RX6, "goOn", "(LWarpYard$Order;)Z"⟩
abbrev cX7_init : ByteArray := prog_8_method_1_code
def yX7_init : MethodName := ⟨RX7, "<init>", "()V"⟩
abbrev cX7_clear : ByteArray := prog_8_method_2_code
def yX7_clear : MethodName := ⟨RX7, "clear", "()V"⟩
abbrev cX7_copy : ByteArray := prog_8_method_3_code
def yX7_copy : MethodName := ⟨RX7, "copy", "(LWarpYard$State;)V"⟩
abbrev cX7_hasCellsOf : ByteArray := prog_8_method_4_code
def yX7_hasCellsOf : MethodName := ⟨RX7, "hasCellsOf", "(LWarpYard$State;)Z"⟩
abbrev cX8_init : ByteArray := prog_1_method_1_code
def yX8_init : MethodName := ⟨RX8, "<init>", "()V"⟩
abbrev cX8_part : ByteArray := prog_1_method_2_code
def yX8_part : MethodName := ⟨RX8, "part", "(I)I"⟩
abbrev cX8_tear : ByteArray := prog_1_method_3_code
def yX8_tear : MethodName := ⟨RX8, "tear", "(II)I"⟩
abbrev cX8_rule : ByteArray := prog_1_method_4_code
def yX8_rule : MethodName := ⟨RX8, "rule", "(IIIII)I"⟩
abbrev cX8_start : ByteArray := prog_1_method_5_code
def yX8_start : MethodName := ⟨RX8, "start", "(III)I"⟩
abbrev cX8_step : ByteArray := prog_1_method_6_code
def yX8_step : MethodName := ⟨RX8, "step", "(I)I"⟩
abbrev cX8_run : ByteArray := prog_1_method_7_code
def yX8_run : MethodName := ⟨RX8, "run", "(II)I"⟩
abbrev cX8_deliver : ByteArray := prog_1_method_8_code
def yX8_deliver : MethodName := ⟨RX8, "deliver", "(I)I"⟩
abbrev cX8_deliverAll : ByteArray := prog_1_method_9_code
def yX8_deliverAll : MethodName := ⟨RX8, "deliverAll", "()I"⟩
abbrev cX8_move : ByteArray := prog_1_method_10_code
def yX8_move : MethodName := ⟨RX8, "move", "(II)I"⟩
abbrev cX8_limit : ByteArray := prog_1_method_11_code
def yX8_limit : MethodName := ⟨RX8, "limit", "(I)I"⟩
abbrev cX8_keep : ByteArray := prog_1_method_12_code
def yX8_keep : MethodName := ⟨RX8, "keep", "(I)I"⟩
abbrev cX8_floor : ByteArray := prog_1_method_13_code
def yX8_floor : MethodName := ⟨RX8, "floor", "(I)I"⟩
abbrev cX8_cell : ByteArray := prog_1_method_14_code
def yX8_cell : MethodName := ⟨RX8, "cell", "(II)I"⟩
abbrev cX8_settled : ByteArray := prog_1_method_15_code
def yX8_settled : MethodName := ⟨RX8, "settled", "(II)I"⟩
abbrev cX8_told : ByteArray := prog_1_method_16_code
def yX8_told : MethodName := ⟨RX8, "told", "(II)I"⟩
abbrev cX8_event : ByteArray := prog_1_method_17_code
def yX8_event : MethodName := ⟨RX8, "event", "(II)I"⟩
abbrev cX8_number : ByteArray := prog_1_method_18_code
def yX8_number : MethodName := ⟨RX8, "number", "(I)I"⟩
abbrev cX8_way : ByteArray := prog_1_method_19_code
def yX8_way : MethodName := ⟨RX8, "way", "(II)I"⟩
abbrev cX8_count : ByteArray := prog_1_method_20_code
def yX8_count : MethodName := ⟨RX8, "count", "(I)I"⟩
abbrev cX8_out : ByteArray := prog_1_method_21_code
def yX8_out : MethodName := ⟨RX8, "out", "(II)I"⟩
abbrev cX8_printed : ByteArray := prog_1_method_22_code
def yX8_printed : MethodName := ⟨RX8, "printed", "(I)I"⟩
abbrev cX8_failed : ByteArray := prog_1_method_23_code
def yX8_failed : MethodName := ⟨RX8, "failed", "(I)I"⟩
abbrev cX8_same : ByteArray := prog_1_method_24_code
def yX8_same : MethodName := ⟨RX8, "same", "()I"⟩
abbrev cX8_isWithin : ByteArray := prog_1_method_25_code
def yX8_isWithin : MethodName := ⟨RX8, "isWithin", "(III)Z"⟩
abbrev cX8_isLine : ByteArray := prog_1_method_26_code
def yX8_isLine : MethodName := ⟨RX8, "isLine", "(I)Z"⟩
abbrev cX8_isPart : ByteArray := prog_1_method_27_code
def yX8_isPart : MethodName := ⟨RX8, "isPart", "(I)Z"⟩
abbrev cX8_isEvent : ByteArray := prog_1_method_28_code
def yX8_isEvent : MethodName := ⟨RX8, "isEvent", "(I)Z"⟩
abbrev cX8_doNext : ByteArray := prog_1_method_29_code
def yX8_doNext : MethodName := ⟨RX8, "doNext", "(I)I"⟩
abbrev cX8_leastThere : ByteArray := prog_1_method_30_code
def yX8_leastThere : MethodName := ⟨RX8, "leastThere", "(I)LWarpYard$Event;"⟩
abbrev cX8_isBeyondLimit : ByteArray := prog_1_method_31_code
def yX8_isBeyondLimit : MethodName := ⟨RX8, "isBeyondLimit", "(LWarpYard$Event;)Z"⟩
abbrev cX8_doEvent : ByteArray := prog_1_method_32_code
def yX8_doEvent : MethodName := ⟨RX8, "doEvent", "(LWarpYard$Event;)V"⟩
abbrev cX8_addEvent : ByteArray := prog_1_method_33_code
def yX8_addEvent : MethodName := ⟨RX8, "addEvent", "(IIIIII)LWarpYard$Event;"⟩
abbrev cX8_post : ByteArray := prog_1_method_34_code
def yX8_post : MethodName := ⟨RX8, "post", "(LWarpYard$Event;ZI)V"⟩
abbrev cX8_handOver : ByteArray := prog_1_method_35_code
def yX8_handOver : MethodName := ⟨RX8, "handOver", "(I)V"⟩
abbrev cX8_workOff : ByteArray := prog_1_method_36_code
def yX8_workOff : MethodName := ⟨RX8, "workOff", "()V"⟩
abbrev cX8_eventComes : ByteArray := prog_1_method_37_code
def yX8_eventComes : MethodName := ⟨RX8, "eventComes", "(LWarpYard$Event;)V"⟩
abbrev cX8_shadowComes : ByteArray := prog_1_method_38_code
def yX8_shadowComes : MethodName := ⟨RX8, "shadowComes", "(LWarpYard$Event;)V"⟩
abbrev cX8_meet : ByteArray := prog_1_method_39_code
def yX8_meet : MethodName := ⟨RX8, "meet", "(LWarpYard$Event;)V"⟩
abbrev cX8_goBack : ByteArray := prog_1_method_40_code
def yX8_goBack : MethodName := ⟨RX8, "goBack", "(LWarpYard$Event;)I"⟩
abbrev cX8_sendShadows : ByteArray := prog_1_method_41_code
def yX8_sendShadows : MethodName := ⟨RX8, "sendShadows", "(II)V"⟩
abbrev cX8_isDoneAt : ByteArray := prog_1_method_42_code
def yX8_isDoneAt : MethodName := ⟨RX8, "isDoneAt", "(II)Z"⟩
abbrev cX8_firstDone : ByteArray := prog_1_method_43_code
def yX8_firstDone : MethodName := ⟨RX8, "firstDone", "(II)I"⟩
abbrev cX8_stateAhead : ByteArray := prog_1_method_44_code
def yX8_stateAhead : MethodName := ⟨RX8, "stateAhead", "(IILWarpYard$State;)V"⟩
abbrev cX8_isKeptAt : ByteArray := prog_1_method_45_code
def yX8_isKeptAt : MethodName := ⟨RX8, "isKeptAt", "(II)Z"⟩
abbrev cX8_leastOpen : ByteArray := prog_1_method_46_code
def yX8_leastOpen : MethodName := ⟨RX8, "leastOpen", "()LWarpYard$Event;"⟩
abbrev cX8_isSettled : ByteArray := prog_1_method_47_code
def yX8_isSettled : MethodName := ⟨RX8, "isSettled", "(LWarpYard$Event;LWarpYard$Event;)Z"⟩
abbrev cX8_settledEnd : ByteArray := prog_1_method_48_code
def yX8_settledEnd : MethodName := ⟨RX8, "settledEnd", "(LWarpYard$Event;)I"⟩
abbrev cX8_settledState : ByteArray := prog_1_method_49_code
def yX8_settledState : MethodName := ⟨RX8, "settledState", "(II)LWarpYard$State;"⟩
abbrev cX8_settledEvents : ByteArray := prog_1_method_50_code
def yX8_settledEvents : MethodName := ⟨RX8, "settledEvents", "(IZ)I"⟩
abbrev cX8_firstSettledFailed : ByteArray := prog_1_method_51_code
def yX8_firstSettledFailed : MethodName := ⟨RX8, "firstSettledFailed", "()LWarpYard$Event;"⟩
abbrev cX8_lastClosedMinute : ByteArray := prog_1_method_52_code
def yX8_lastClosedMinute : MethodName := ⟨RX8, "lastClosedMinute", "()I"⟩
abbrev cX8_thereAt : ByteArray := prog_1_method_53_code
def yX8_thereAt : MethodName := ⟨RX8, "thereAt", "(I)I"⟩
abbrev cX8_waitingAt : ByteArray := prog_1_method_54_code
def yX8_waitingAt : MethodName := ⟨RX8, "waitingAt", "(I)I"⟩
abbrev cX6_isAtEqual : ByteArray := prog_9_method_4_code
def yX6_isAtEqual : MethodName := ⟨RX6, "isAtEqual", "(LWarpYard$Walk;)Z"⟩
abbrev cX9_init : ByteArray := prog_11_method_1_code
def yX9_init : MethodName := ⟨RX9, "<init>", "()V"⟩
abbrev cX9_in : ByteArray := prog_11_method_2_code
def yX9_in : MethodName := ⟨RX9, "in", "(III)Z"⟩
abbrev cX9_isPart : ByteArray := prog_11_method_3_code
def yX9_isPart : MethodName := ⟨RX9, "isPart", "(I)Z"⟩
abbrev cX9_part : ByteArray := prog_11_method_4_code
def yX9_part : MethodName := ⟨RX9, "part", "(I)I"⟩
abbrev cX9_tear : ByteArray := prog_11_method_5_code
def yX9_tear : MethodName := ⟨RX9, "tear", "(II)I"⟩
abbrev cX9_rule : ByteArray := prog_11_method_6_code
def yX9_rule : MethodName := ⟨RX9, "rule", "(IIIII)I"⟩
abbrev cX9_compare : ByteArray := prog_11_method_7_code
def yX9_compare : MethodName := ⟨RX9, "compare", "(IIIII)I"⟩
abbrev cX9_keys : ByteArray := prog_11_method_8_code
def yX9_keys : MethodName := ⟨RX9, "keys", "(II)I"⟩
abbrev cX9_isBelow : ByteArray := prog_11_method_9_code
def yX9_isBelow : MethodName := ⟨RX9, "isBelow", "(II)Z"⟩
abbrev cX9_nothing : ByteArray := prog_11_method_10_code
def yX9_nothing : MethodName := ⟨RX9, "nothing", "()V"⟩
abbrev cX9_acts : ByteArray := prog_11_method_11_code
def yX9_acts : MethodName := ⟨RX9, "acts", "(III)V"⟩
abbrev cX9_one : ByteArray := prog_11_method_12_code
def yX9_one : MethodName := ⟨RX9, "one", "(IIII)V"⟩
abbrev cX9_sends : ByteArray := prog_11_method_13_code
def yX9_sends : MethodName := ⟨RX9, "sends", "(IIII)V"⟩
abbrev cX9_draws : ByteArray := prog_11_method_14_code
def yX9_draws : MethodName := ⟨RX9, "draws", "(II)V"⟩
abbrev cX9_state : ByteArray := prog_11_method_15_code
def yX9_state : MethodName := ⟨RX9, "state", "(II)V"⟩
abbrev cX9_made : ByteArray := prog_11_method_16_code
def yX9_made : MethodName := ⟨RX9, "made", "(IIIII)I"⟩
abbrev cX9_goes : ByteArray := prog_11_method_17_code
def yX9_goes : MethodName := ⟨RX9, "goes", "(III)V"⟩
abbrev cX9_come : ByteArray := prog_11_method_18_code
def yX9_come : MethodName := ⟨RX9, "come", "()V"⟩
abbrev cX9_meet : ByteArray := prog_11_method_19_code
def yX9_meet : MethodName := ⟨RX9, "meet", "(I)V"⟩
abbrev cX9_eventComes : ByteArray := prog_11_method_20_code
def yX9_eventComes : MethodName := ⟨RX9, "eventComes", "(I)V"⟩
abbrev cX9_shadowComes : ByteArray := prog_11_method_21_code
def yX9_shadowComes : MethodName := ⟨RX9, "shadowComes", "(I)V"⟩
abbrev cX9_back : ByteArray := prog_11_method_22_code
def yX9_back : MethodName := ⟨RX9, "back", "(I)V"⟩
abbrev cX9_shadowsOf : ByteArray := prog_11_method_23_code
def yX9_shadowsOf : MethodName := ⟨RX9, "shadowsOf", "(II)V"⟩
abbrev cX9_lower : ByteArray := prog_11_method_24_code
def yX9_lower : MethodName := ⟨RX9, "lower", "(I)V"⟩
abbrev cX9_findFloor : ByteArray := prog_11_method_25_code
def yX9_findFloor : MethodName := ⟨RX9, "findFloor", "()V"⟩
abbrev cX9_isSettled : ByteArray := prog_11_method_26_code
def yX9_isSettled : MethodName := ⟨RX9, "isSettled", "(I)Z"⟩
abbrev cX9_start : ByteArray := prog_11_method_27_code
def yX9_start : MethodName := ⟨RX9, "start", "(III)I"⟩
abbrev cX9_nextOf : ByteArray := prog_11_method_28_code
def yX9_nextOf : MethodName := ⟨RX9, "nextOf", "(I)I"⟩
abbrev cX9_step : ByteArray := prog_11_method_29_code
def yX9_step : MethodName := ⟨RX9, "step", "(I)I"⟩
abbrev cX9_does : ByteArray := prog_11_method_30_code
def yX9_does : MethodName := ⟨RX9, "does", "(I)V"⟩
abbrev cX9_run : ByteArray := prog_11_method_31_code
def yX9_run : MethodName := ⟨RX9, "run", "(II)I"⟩
abbrev cX9_comes : ByteArray := prog_11_method_32_code
def yX9_comes : MethodName := ⟨RX9, "comes", "(I)I"⟩
abbrev cX9_deliver : ByteArray := prog_11_method_33_code
def yX9_deliver : MethodName := ⟨RX9, "deliver", "(I)I"⟩
abbrev cX9_deliverAll : ByteArray := prog_11_method_34_code
def yX9_deliverAll : MethodName := ⟨RX9, "deliverAll", "()I"⟩
abbrev cX9_move : ByteArray := prog_11_method_35_code
def yX9_move : MethodName := ⟨RX9, "move", "(II)I"⟩
abbrev cX9_limit : ByteArray := prog_11_method_36_code
def yX9_limit : MethodName := ⟨RX9, "limit", "(I)I"⟩
abbrev cX9_keep : ByteArray := prog_11_method_37_code
def yX9_keep : MethodName := ⟨RX9, "keep", "(I)I"⟩
abbrev cX9_floor : ByteArray := prog_11_method_38_code
def yX9_floor : MethodName := ⟨RX9, "floor", "(I)I"⟩
abbrev cX9_cell : ByteArray := prog_11_method_39_code
def yX9_cell : MethodName := ⟨RX9, "cell", "(II)I"⟩
abbrev cX9_settledOf : ByteArray := prog_11_method_40_code
def yX9_settledOf : MethodName := ⟨RX9, "settledOf", "(I)I"⟩
abbrev cX9_settled : ByteArray := prog_11_method_41_code
def yX9_settled : MethodName := ⟨RX9, "settled", "(II)I"⟩
abbrev cX9_waiting : ByteArray := prog_11_method_42_code
def yX9_waiting : MethodName := ⟨RX9, "waiting", "(I)I"⟩
abbrev cX9_thereOf : ByteArray := prog_11_method_43_code
def yX9_thereOf : MethodName := ⟨RX9, "thereOf", "(I)I"⟩
abbrev cX9_told : ByteArray := prog_11_method_44_code
def yX9_told : MethodName := ⟨RX9, "told", "(II)I"⟩
abbrev cX9_event : ByteArray := prog_11_method_45_code
def yX9_event : MethodName := ⟨RX9, "event", "(II)I"⟩
abbrev cX9_number : ByteArray := prog_11_method_46_code
def yX9_number : MethodName := ⟨RX9, "number", "(I)I"⟩
abbrev cX9_way : ByteArray := prog_11_method_47_code
def yX9_way : MethodName := ⟨RX9, "way", "(II)I"⟩
abbrev cX9_settle : ByteArray := prog_11_method_48_code
def yX9_settle : MethodName := ⟨RX9, "settle", "()V"⟩
abbrev cX9_count : ByteArray := prog_11_method_49_code
def yX9_count : MethodName := ⟨RX9, "count", "(I)I"⟩
abbrev cX9_outOf : ByteArray := prog_11_method_50_code
def yX9_outOf : MethodName := ⟨RX9, "outOf", "(I)I"⟩
abbrev cX9_out : ByteArray := prog_11_method_51_code
def yX9_out : MethodName := ⟨RX9, "out", "(II)I"⟩
abbrev cX9_printed : ByteArray := prog_11_method_52_code
def yX9_printed : MethodName := ⟨RX9, "printed", "(I)I"⟩
abbrev cX9_failed : ByteArray := prog_11_method_53_code
def yX9_failed : MethodName := ⟨RX9, "failed", "(I)I"⟩
abbrev cX9_plain : ByteArray := prog_11_method_54_code
def yX9_plain : MethodName := ⟨RX9, "plain", "(IIIII)V"⟩
abbrev cX9_isLower : ByteArray := prog_11_method_55_code
def yX9_isLower : MethodName := ⟨RX9, "isLower", "(IIIII)Z"⟩
abbrev cX9_nextPlain : ByteArray := prog_11_method_56_code
def yX9_nextPlain : MethodName := ⟨RX9, "nextPlain", "()I"⟩
abbrev cX9_plainDoes : ByteArray := prog_11_method_57_code
def yX9_plainDoes : MethodName := ⟨RX9, "plainDoes", "(I)V"⟩
abbrev cX9_same : ByteArray := prog_11_method_58_code
def yX9_same : MethodName := ⟨RX9, "same", "()I"⟩
abbrev cJ6_compare_7cf53 : ByteArray := prog_12_method_40_code
def yJ6_compare_7cf53 : MethodName := ⟨RJ6, "compare", "(II)I"⟩
abbrev cX8_outCount : ByteArray := prog_1_method_55_code
def yX8_outCount : MethodName := ⟨RX8, "outCount", "(I)I"⟩
abbrev cX8_goToOut : ByteArray := prog_1_method_56_code
def yX8_goToOut : MethodName := ⟨RX8, "goToOut", "(I)Z"⟩
abbrev cX8_isOutOfPlain : ByteArray := prog_1_method_57_code
def yX8_isOutOfPlain : MethodName := ⟨RX8, "isOutOfPlain", "(I)Z"⟩
abbrev cJ9_floorMod_7cf53 : ByteArray := prog_13_method_50_code
def yJ9_floorMod_7cf53 : MethodName := ⟨RJ9, "floorMod", "(II)I"⟩
abbrev cJ9_max_7cf53 : ByteArray := prog_13_method_65_code
def yJ9_max_7cf53 : MethodName := ⟨RJ9, "max", "(II)I"⟩
abbrev cL_law : ByteArray := code
def yL_law : MethodName := ⟨RL, "law", "([I)Z"⟩
abbrev vwCl : List vw_C := [(RX0, TX0, 8), (RX1, TX1, 16), (RX2, TX2, 2), (RX3, TX3, 12), (RX4, TX4, 8), (RX5, TX5, 3), (RX6, TX6, 6), (RX7, TX7, 3), (RX8, TX8, 15), (RX9, TX9, 68)]
