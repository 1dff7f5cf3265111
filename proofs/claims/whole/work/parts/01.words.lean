-- ===== PART A: goes FIRST, ahead of the names: the tables' words, and 'selects' of the private methods out of them =====
/-- a private method of a class that the tables say can be made, by its rows of tables_1 -/
def lw_okq (q : MethodName × Nat) : Prop := (q.1.cls ≠ "java/lang/invoke/MethodHandle" ∧ q.1.cls ≠ "java/lang/invoke/VarHandle") ∧ Cond.instantiable q.1.cls q.2 ∈ tables_1 ∧ Cond.privateMethod q.1 ∈ tables_1 ∧ Cond.instanceMethod q.1 ∈ tables_1
theorem lw_p0 : lw_okq (⟨"RiichiTable$Wall", "pick", "(I)I"⟩, 4) := ⟨⟨by decide +kernel, by decide +kernel⟩, List.mem_of_getElem? (i := 141) (by decide +kernel), List.mem_of_getElem? (i := 231) (by decide +kernel), List.mem_of_getElem? (i := 232) (by decide +kernel)⟩
theorem lw_p1 : lw_okq (⟨"RiichiTable$Wall", "exchange", "(II)V"⟩, 4) := ⟨⟨by decide +kernel, by decide +kernel⟩, List.mem_of_getElem? (i := 141) (by decide +kernel), List.mem_of_getElem? (i := 236) (by decide +kernel), List.mem_of_getElem? (i := 237) (by decide +kernel)⟩
theorem lw_p2 : lw_okq (⟨"RiichiTable", "drawFor", "(I)V"⟩, 14) := ⟨⟨by decide +kernel, by decide +kernel⟩, List.mem_of_getElem? (i := 14) (by decide +kernel), List.mem_of_getElem? (i := 312) (by decide +kernel), List.mem_of_getElem? (i := 313) (by decide +kernel)⟩
theorem lw_p3 : lw_okq (⟨"RiichiTable", "giveDrawn", "(I)V"⟩, 14) := ⟨⟨by decide +kernel, by decide +kernel⟩, List.mem_of_getElem? (i := 14) (by decide +kernel), List.mem_of_getElem? (i := 320) (by decide +kernel), List.mem_of_getElem? (i := 321) (by decide +kernel)⟩
theorem lw_p4 : lw_okq (⟨"RiichiTable", "mayRiichi", "(LRiichiTable$Player;I)Z"⟩, 14) := ⟨⟨by decide +kernel, by decide +kernel⟩, List.mem_of_getElem? (i := 14) (by decide +kernel), List.mem_of_getElem? (i := 333) (by decide +kernel), List.mem_of_getElem? (i := 334) (by decide +kernel)⟩
theorem lw_p5 : lw_okq (⟨"RiichiTable$Player", "lacksOne", "()Z"⟩, 14) := ⟨⟨by decide +kernel, by decide +kernel⟩, List.mem_of_getElem? (i := 161) (by decide +kernel), List.mem_of_getElem? (i := 352) (by decide +kernel), List.mem_of_getElem? (i := 353) (by decide +kernel)⟩
theorem lw_p6 : lw_okq (⟨"RiichiTable$Player", "countOwned", "(I)I"⟩, 14) := ⟨⟨by decide +kernel, by decide +kernel⟩, List.mem_of_getElem? (i := 161) (by decide +kernel), List.mem_of_getElem? (i := 360) (by decide +kernel), List.mem_of_getElem? (i := 361) (by decide +kernel)⟩
theorem lw_p7 : lw_okq (⟨"RiichiTable", "offerClaims", "()Z"⟩, 14) := ⟨⟨by decide +kernel, by decide +kernel⟩, List.mem_of_getElem? (i := 14) (by decide +kernel), List.mem_of_getElem? (i := 384) (by decide +kernel), List.mem_of_getElem? (i := 385) (by decide +kernel)⟩
theorem lw_p8 : lw_okq (⟨"RiichiTable", "findTakes", "(I)I"⟩, 14) := ⟨⟨by decide +kernel, by decide +kernel⟩, List.mem_of_getElem? (i := 14) (by decide +kernel), List.mem_of_getElem? (i := 388) (by decide +kernel), List.mem_of_getElem? (i := 389) (by decide +kernel)⟩
theorem lw_p9 : lw_okq (⟨"RiichiTable", "mayWin", "(I)Z"⟩, 14) := ⟨⟨by decide +kernel, by decide +kernel⟩, List.mem_of_getElem? (i := 14) (by decide +kernel), List.mem_of_getElem? (i := 396) (by decide +kernel), List.mem_of_getElem? (i := 397) (by decide +kernel)⟩
theorem lw_p10 : lw_okq (⟨"RiichiTable", "showHand", "(IZ)V"⟩, 14) := ⟨⟨by decide +kernel, by decide +kernel⟩, List.mem_of_getElem? (i := 14) (by decide +kernel), List.mem_of_getElem? (i := 406) (by decide +kernel), List.mem_of_getElem? (i := 407) (by decide +kernel)⟩
theorem lw_p11 : lw_okq (⟨"RiichiTable$Splitter", "addSets", "(II)V"⟩, 6) := ⟨⟨by decide +kernel, by decide +kernel⟩, List.mem_of_getElem? (i := 30) (by decide +kernel), List.mem_of_getElem? (i := 419) (by decide +kernel), List.mem_of_getElem? (i := 420) (by decide +kernel)⟩
theorem lw_p12 : lw_okq (⟨"RiichiTable", "yakuOfDraw", "(I)J"⟩, 14) := ⟨⟨by decide +kernel, by decide +kernel⟩, List.mem_of_getElem? (i := 14) (by decide +kernel), List.mem_of_getElem? (i := 430) (by decide +kernel), List.mem_of_getElem? (i := 431) (by decide +kernel)⟩
theorem lw_p13 : lw_okq (⟨"RiichiTable", "yakuOfTile", "()J"⟩, 14) := ⟨⟨by decide +kernel, by decide +kernel⟩, List.mem_of_getElem? (i := 14) (by decide +kernel), List.mem_of_getElem? (i := 434) (by decide +kernel), List.mem_of_getElem? (i := 435) (by decide +kernel)⟩
theorem lw_p14 : lw_okq (⟨"RiichiTable$Judge", "rate", "(JI)V"⟩, 15) := ⟨⟨by decide +kernel, by decide +kernel⟩, List.mem_of_getElem? (i := 24) (by decide +kernel), List.mem_of_getElem? (i := 451) (by decide +kernel), List.mem_of_getElem? (i := 452) (by decide +kernel)⟩
theorem lw_p15 : lw_okq (⟨"RiichiTable$Judge", "countHan", "(J)I"⟩, 15) := ⟨⟨by decide +kernel, by decide +kernel⟩, List.mem_of_getElem? (i := 24) (by decide +kernel), List.mem_of_getElem? (i := 455) (by decide +kernel), List.mem_of_getElem? (i := 456) (by decide +kernel)⟩
def lw_privs_1 : List (MethodName × Nat) := [(⟨"RiichiTable$Wall", "pick", "(I)I"⟩, 4), (⟨"RiichiTable$Wall", "exchange", "(II)V"⟩, 4), (⟨"RiichiTable", "drawFor", "(I)V"⟩, 14), (⟨"RiichiTable", "giveDrawn", "(I)V"⟩, 14), (⟨"RiichiTable", "mayRiichi", "(LRiichiTable$Player;I)Z"⟩, 14), (⟨"RiichiTable$Player", "lacksOne", "()Z"⟩, 14), (⟨"RiichiTable$Player", "countOwned", "(I)I"⟩, 14), (⟨"RiichiTable", "offerClaims", "()Z"⟩, 14), (⟨"RiichiTable", "findTakes", "(I)I"⟩, 14), (⟨"RiichiTable", "mayWin", "(I)Z"⟩, 14), (⟨"RiichiTable", "showHand", "(IZ)V"⟩, 14), (⟨"RiichiTable$Splitter", "addSets", "(II)V"⟩, 6), (⟨"RiichiTable", "yakuOfDraw", "(I)J"⟩, 14), (⟨"RiichiTable", "yakuOfTile", "()J"⟩, 14), (⟨"RiichiTable$Judge", "rate", "(JI)V"⟩, 15), (⟨"RiichiTable$Judge", "countHan", "(J)I"⟩, 15)]
theorem lw_r1 : ∀ q ∈ lw_privs_1, lw_okq q := List.forall_mem_cons.mpr ⟨lw_p0, List.forall_mem_cons.mpr ⟨lw_p1, List.forall_mem_cons.mpr ⟨lw_p2, List.forall_mem_cons.mpr ⟨lw_p3, List.forall_mem_cons.mpr ⟨lw_p4, List.forall_mem_cons.mpr ⟨lw_p5, List.forall_mem_cons.mpr ⟨lw_p6, List.forall_mem_cons.mpr ⟨lw_p7, List.forall_mem_cons.mpr ⟨lw_p8, List.forall_mem_cons.mpr ⟨lw_p9, List.forall_mem_cons.mpr ⟨lw_p10, List.forall_mem_cons.mpr ⟨lw_p11, List.forall_mem_cons.mpr ⟨lw_p12, List.forall_mem_cons.mpr ⟨lw_p13, List.forall_mem_cons.mpr ⟨lw_p14, List.forall_mem_cons.mpr ⟨lw_p15, fun _ h => absurd h List.not_mem_nil⟩⟩⟩⟩⟩⟩⟩⟩⟩⟩⟩⟩⟩⟩⟩⟩
theorem lw_p16 : lw_okq (⟨"RiichiTable$Judge", "yakuOfTiles", "()J"⟩, 15) := ⟨⟨by decide +kernel, by decide +kernel⟩, List.mem_of_getElem? (i := 24) (by decide +kernel), List.mem_of_getElem? (i := 479) (by decide +kernel), List.mem_of_getElem? (i := 480) (by decide +kernel)⟩
theorem lw_p17 : lw_okq (⟨"RiichiTable$Judge", "kindsOfTiles", "()J"⟩, 15) := ⟨⟨by decide +kernel, by decide +kernel⟩, List.mem_of_getElem? (i := 24) (by decide +kernel), List.mem_of_getElem? (i := 483) (by decide +kernel), List.mem_of_getElem? (i := 484) (by decide +kernel)⟩
theorem lw_p18 : lw_okq (⟨"RiichiTable$Judge", "hasNineGates", "(I)Z"⟩, 15) := ⟨⟨by decide +kernel, by decide +kernel⟩, List.mem_of_getElem? (i := 24) (by decide +kernel), List.mem_of_getElem? (i := 492) (by decide +kernel), List.mem_of_getElem? (i := 493) (by decide +kernel)⟩
theorem lw_p19 : lw_okq (⟨"RiichiTable$Splitter", "takeApart", "(II)V"⟩, 6) := ⟨⟨by decide +kernel, by decide +kernel⟩, List.mem_of_getElem? (i := 30) (by decide +kernel), List.mem_of_getElem? (i := 502) (by decide +kernel), List.mem_of_getElem? (i := 503) (by decide +kernel)⟩
theorem lw_p20 : lw_okq (⟨"RiichiTable$Splitter", "keepWay", "()V"⟩, 6) := ⟨⟨by decide +kernel, by decide +kernel⟩, List.mem_of_getElem? (i := 30) (by decide +kernel), List.mem_of_getElem? (i := 506) (by decide +kernel), List.mem_of_getElem? (i := 507) (by decide +kernel)⟩
theorem lw_p21 : lw_okq (⟨"RiichiTable$Splitter", "tryParts", "(IIII)V"⟩, 6) := ⟨⟨by decide +kernel, by decide +kernel⟩, List.mem_of_getElem? (i := 30) (by decide +kernel), List.mem_of_getElem? (i := 510) (by decide +kernel), List.mem_of_getElem? (i := 511) (by decide +kernel)⟩
theorem lw_p22 : lw_okq (⟨"RiichiTable$Splitter", "hasRuns", "(II)Z"⟩, 6) := ⟨⟨by decide +kernel, by decide +kernel⟩, List.mem_of_getElem? (i := 30) (by decide +kernel), List.mem_of_getElem? (i := 514) (by decide +kernel), List.mem_of_getElem? (i := 515) (by decide +kernel)⟩
theorem lw_p23 : lw_okq (⟨"RiichiTable$Splitter", "removeBehind", "(II)V"⟩, 6) := ⟨⟨by decide +kernel, by decide +kernel⟩, List.mem_of_getElem? (i := 30) (by decide +kernel), List.mem_of_getElem? (i := 518) (by decide +kernel), List.mem_of_getElem? (i := 519) (by decide +kernel)⟩
theorem lw_p24 : lw_okq (⟨"RiichiTable$Judge", "isLastThere", "()Z"⟩, 15) := ⟨⟨by decide +kernel, by decide +kernel⟩, List.mem_of_getElem? (i := 24) (by decide +kernel), List.mem_of_getElem? (i := 526) (by decide +kernel), List.mem_of_getElem? (i := 527) (by decide +kernel)⟩
theorem lw_p25 : lw_okq (⟨"RiichiTable$Judge", "rateSets", "(J)V"⟩, 15) := ⟨⟨by decide +kernel, by decide +kernel⟩, List.mem_of_getElem? (i := 24) (by decide +kernel), List.mem_of_getElem? (i := 530) (by decide +kernel), List.mem_of_getElem? (i := 531) (by decide +kernel)⟩
theorem lw_p26 : lw_okq (⟨"RiichiTable$Judge", "kindsOfSets", "(Z)J"⟩, 15) := ⟨⟨by decide +kernel, by decide +kernel⟩, List.mem_of_getElem? (i := 24) (by decide +kernel), List.mem_of_getElem? (i := 534) (by decide +kernel), List.mem_of_getElem? (i := 535) (by decide +kernel)⟩
theorem lw_p27 : lw_okq (⟨"RiichiTable$Judge", "yakuOfRuns", "(J)J"⟩, 15) := ⟨⟨by decide +kernel, by decide +kernel⟩, List.mem_of_getElem? (i := 24) (by decide +kernel), List.mem_of_getElem? (i := 538) (by decide +kernel), List.mem_of_getElem? (i := 539) (by decide +kernel)⟩
theorem lw_p28 : lw_okq (⟨"RiichiTable$Judge", "countPairsOfRuns", "()I"⟩, 15) := ⟨⟨by decide +kernel, by decide +kernel⟩, List.mem_of_getElem? (i := 24) (by decide +kernel), List.mem_of_getElem? (i := 549) (by decide +kernel), List.mem_of_getElem? (i := 550) (by decide +kernel)⟩
theorem lw_p29 : lw_okq (⟨"RiichiTable$Judge", "isFlat", "()Z"⟩, 15) := ⟨⟨by decide +kernel, by decide +kernel⟩, List.mem_of_getElem? (i := 24) (by decide +kernel), List.mem_of_getElem? (i := 553) (by decide +kernel), List.mem_of_getElem? (i := 554) (by decide +kernel)⟩
theorem lw_p30 : lw_okq (⟨"RiichiTable$Judge", "yakuOfEnds", "(J)J"⟩, 15) := ⟨⟨by decide +kernel, by decide +kernel⟩, List.mem_of_getElem? (i := 24) (by decide +kernel), List.mem_of_getElem? (i := 557) (by decide +kernel), List.mem_of_getElem? (i := 558) (by decide +kernel)⟩
theorem lw_p31 : lw_okq (⟨"RiichiTable$Judge", "yakuOfTriplets", "(J)J"⟩, 15) := ⟨⟨by decide +kernel, by decide +kernel⟩, List.mem_of_getElem? (i := 24) (by decide +kernel), List.mem_of_getElem? (i := 564) (by decide +kernel), List.mem_of_getElem? (i := 565) (by decide +kernel)⟩
def lw_privs_2 : List (MethodName × Nat) := [(⟨"RiichiTable$Judge", "yakuOfTiles", "()J"⟩, 15), (⟨"RiichiTable$Judge", "kindsOfTiles", "()J"⟩, 15), (⟨"RiichiTable$Judge", "hasNineGates", "(I)Z"⟩, 15), (⟨"RiichiTable$Splitter", "takeApart", "(II)V"⟩, 6), (⟨"RiichiTable$Splitter", "keepWay", "()V"⟩, 6), (⟨"RiichiTable$Splitter", "tryParts", "(IIII)V"⟩, 6), (⟨"RiichiTable$Splitter", "hasRuns", "(II)Z"⟩, 6), (⟨"RiichiTable$Splitter", "removeBehind", "(II)V"⟩, 6), (⟨"RiichiTable$Judge", "isLastThere", "()Z"⟩, 15), (⟨"RiichiTable$Judge", "rateSets", "(J)V"⟩, 15), (⟨"RiichiTable$Judge", "kindsOfSets", "(Z)J"⟩, 15), (⟨"RiichiTable$Judge", "yakuOfRuns", "(J)J"⟩, 15), (⟨"RiichiTable$Judge", "countPairsOfRuns", "()I"⟩, 15), (⟨"RiichiTable$Judge", "isFlat", "()Z"⟩, 15), (⟨"RiichiTable$Judge", "yakuOfEnds", "(J)J"⟩, 15), (⟨"RiichiTable$Judge", "yakuOfTriplets", "(J)J"⟩, 15)]
theorem lw_r2 : ∀ q ∈ lw_privs_2, lw_okq q := List.forall_mem_cons.mpr ⟨lw_p16, List.forall_mem_cons.mpr ⟨lw_p17, List.forall_mem_cons.mpr ⟨lw_p18, List.forall_mem_cons.mpr ⟨lw_p19, List.forall_mem_cons.mpr ⟨lw_p20, List.forall_mem_cons.mpr ⟨lw_p21, List.forall_mem_cons.mpr ⟨lw_p22, List.forall_mem_cons.mpr ⟨lw_p23, List.forall_mem_cons.mpr ⟨lw_p24, List.forall_mem_cons.mpr ⟨lw_p25, List.forall_mem_cons.mpr ⟨lw_p26, List.forall_mem_cons.mpr ⟨lw_p27, List.forall_mem_cons.mpr ⟨lw_p28, List.forall_mem_cons.mpr ⟨lw_p29, List.forall_mem_cons.mpr ⟨lw_p30, List.forall_mem_cons.mpr ⟨lw_p31, fun _ h => absurd h List.not_mem_nil⟩⟩⟩⟩⟩⟩⟩⟩⟩⟩⟩⟩⟩⟩⟩⟩
theorem lw_p32 : lw_okq (⟨"RiichiTable$Judge", "yakuOfTripletSorts", "()J"⟩, 15) := ⟨⟨by decide +kernel, by decide +kernel⟩, List.mem_of_getElem? (i := 24) (by decide +kernel), List.mem_of_getElem? (i := 579) (by decide +kernel), List.mem_of_getElem? (i := 580) (by decide +kernel)⟩
theorem lw_p33 : lw_okq (⟨"RiichiTable$Judge", "isSetClosed", "(I)Z"⟩, 15) := ⟨⟨by decide +kernel, by decide +kernel⟩, List.mem_of_getElem? (i := 24) (by decide +kernel), List.mem_of_getElem? (i := 583) (by decide +kernel), List.mem_of_getElem? (i := 584) (by decide +kernel)⟩
theorem lw_p34 : lw_okq (⟨"RiichiTable$Judge", "countFu", "()I"⟩, 15) := ⟨⟨by decide +kernel, by decide +kernel⟩, List.mem_of_getElem? (i := 24) (by decide +kernel), List.mem_of_getElem? (i := 588) (by decide +kernel), List.mem_of_getElem? (i := 589) (by decide +kernel)⟩
theorem lw_p35 : lw_okq (⟨"RiichiTable$Judge", "fuOfPair", "()I"⟩, 15) := ⟨⟨by decide +kernel, by decide +kernel⟩, List.mem_of_getElem? (i := 24) (by decide +kernel), List.mem_of_getElem? (i := 592) (by decide +kernel), List.mem_of_getElem? (i := 593) (by decide +kernel)⟩
theorem lw_p36 : lw_okq (⟨"RiichiTable$Judge", "fuOfLast", "()I"⟩, 15) := ⟨⟨by decide +kernel, by decide +kernel⟩, List.mem_of_getElem? (i := 24) (by decide +kernel), List.mem_of_getElem? (i := 596) (by decide +kernel), List.mem_of_getElem? (i := 597) (by decide +kernel)⟩
theorem lw_p37 : lw_okq (⟨"RiichiTable$Judge", "fuOfSet", "(I)I"⟩, 15) := ⟨⟨by decide +kernel, by decide +kernel⟩, List.mem_of_getElem? (i := 24) (by decide +kernel), List.mem_of_getElem? (i := 600) (by decide +kernel), List.mem_of_getElem? (i := 601) (by decide +kernel)⟩
theorem lw_p38 : lw_okq (⟨"RiichiTable", "isAnswerMissing", "()Z"⟩, 14) := ⟨⟨by decide +kernel, by decide +kernel⟩, List.mem_of_getElem? (i := 14) (by decide +kernel), List.mem_of_getElem? (i := 604) (by decide +kernel), List.mem_of_getElem? (i := 605) (by decide +kernel)⟩
theorem lw_p39 : lw_okq (⟨"RiichiTable", "settle", "()V"⟩, 14) := ⟨⟨by decide +kernel, by decide +kernel⟩, List.mem_of_getElem? (i := 14) (by decide +kernel), List.mem_of_getElem? (i := 608) (by decide +kernel), List.mem_of_getElem? (i := 609) (by decide +kernel)⟩
theorem lw_p40 : lw_okq (⟨"RiichiTable", "noteMissed", "()V"⟩, 14) := ⟨⟨by decide +kernel, by decide +kernel⟩, List.mem_of_getElem? (i := 14) (by decide +kernel), List.mem_of_getElem? (i := 612) (by decide +kernel), List.mem_of_getElem? (i := 613) (by decide +kernel)⟩
theorem lw_p41 : lw_okq (⟨"RiichiTable", "findAnswer", "(I)I"⟩, 14) := ⟨⟨by decide +kernel, by decide +kernel⟩, List.mem_of_getElem? (i := 14) (by decide +kernel), List.mem_of_getElem? (i := 616) (by decide +kernel), List.mem_of_getElem? (i := 617) (by decide +kernel)⟩
theorem lw_p42 : lw_okq (⟨"RiichiTable", "payForTile", "()V"⟩, 14) := ⟨⟨by decide +kernel, by decide +kernel⟩, List.mem_of_getElem? (i := 14) (by decide +kernel), List.mem_of_getElem? (i := 620) (by decide +kernel), List.mem_of_getElem? (i := 621) (by decide +kernel)⟩
theorem lw_p43 : lw_okq (⟨"RiichiTable", "takeSticks", "()I"⟩, 14) := ⟨⟨by decide +kernel, by decide +kernel⟩, List.mem_of_getElem? (i := 14) (by decide +kernel), List.mem_of_getElem? (i := 624) (by decide +kernel), List.mem_of_getElem? (i := 625) (by decide +kernel)⟩
theorem lw_p44 : lw_okq (⟨"RiichiTable", "endHand", "(ZZ)V"⟩, 14) := ⟨⟨by decide +kernel, by decide +kernel⟩, List.mem_of_getElem? (i := 14) (by decide +kernel), List.mem_of_getElem? (i := 632) (by decide +kernel), List.mem_of_getElem? (i := 633) (by decide +kernel)⟩
theorem lw_p45 : lw_okq (⟨"RiichiTable", "finish", "()V"⟩, 14) := ⟨⟨by decide +kernel, by decide +kernel⟩, List.mem_of_getElem? (i := 14) (by decide +kernel), List.mem_of_getElem? (i := 636) (by decide +kernel), List.mem_of_getElem? (i := 637) (by decide +kernel)⟩
theorem lw_p46 : lw_okq (⟨"RiichiTable", "completeAddedQuad", "()V"⟩, 14) := ⟨⟨by decide +kernel, by decide +kernel⟩, List.mem_of_getElem? (i := 14) (by decide +kernel), List.mem_of_getElem? (i := 640) (by decide +kernel), List.mem_of_getElem? (i := 641) (by decide +kernel)⟩
theorem lw_p47 : lw_okq (⟨"RiichiTable", "completeQuad", "()V"⟩, 14) := ⟨⟨by decide +kernel, by decide +kernel⟩, List.mem_of_getElem? (i := 14) (by decide +kernel), List.mem_of_getElem? (i := 648) (by decide +kernel), List.mem_of_getElem? (i := 649) (by decide +kernel)⟩
def lw_privs_3 : List (MethodName × Nat) := [(⟨"RiichiTable$Judge", "yakuOfTripletSorts", "()J"⟩, 15), (⟨"RiichiTable$Judge", "isSetClosed", "(I)Z"⟩, 15), (⟨"RiichiTable$Judge", "countFu", "()I"⟩, 15), (⟨"RiichiTable$Judge", "fuOfPair", "()I"⟩, 15), (⟨"RiichiTable$Judge", "fuOfLast", "()I"⟩, 15), (⟨"RiichiTable$Judge", "fuOfSet", "(I)I"⟩, 15), (⟨"RiichiTable", "isAnswerMissing", "()Z"⟩, 14), (⟨"RiichiTable", "settle", "()V"⟩, 14), (⟨"RiichiTable", "noteMissed", "()V"⟩, 14), (⟨"RiichiTable", "findAnswer", "(I)I"⟩, 14), (⟨"RiichiTable", "payForTile", "()V"⟩, 14), (⟨"RiichiTable", "takeSticks", "()I"⟩, 14), (⟨"RiichiTable", "endHand", "(ZZ)V"⟩, 14), (⟨"RiichiTable", "finish", "()V"⟩, 14), (⟨"RiichiTable", "completeAddedQuad", "()V"⟩, 14), (⟨"RiichiTable", "completeQuad", "()V"⟩, 14)]
theorem lw_r3 : ∀ q ∈ lw_privs_3, lw_okq q := List.forall_mem_cons.mpr ⟨lw_p32, List.forall_mem_cons.mpr ⟨lw_p33, List.forall_mem_cons.mpr ⟨lw_p34, List.forall_mem_cons.mpr ⟨lw_p35, List.forall_mem_cons.mpr ⟨lw_p36, List.forall_mem_cons.mpr ⟨lw_p37, List.forall_mem_cons.mpr ⟨lw_p38, List.forall_mem_cons.mpr ⟨lw_p39, List.forall_mem_cons.mpr ⟨lw_p40, List.forall_mem_cons.mpr ⟨lw_p41, List.forall_mem_cons.mpr ⟨lw_p42, List.forall_mem_cons.mpr ⟨lw_p43, List.forall_mem_cons.mpr ⟨lw_p44, List.forall_mem_cons.mpr ⟨lw_p45, List.forall_mem_cons.mpr ⟨lw_p46, List.forall_mem_cons.mpr ⟨lw_p47, fun _ h => absurd h List.not_mem_nil⟩⟩⟩⟩⟩⟩⟩⟩⟩⟩⟩⟩⟩⟩⟩⟩
theorem lw_p48 : lw_okq (⟨"RiichiTable", "noteCall", "()V"⟩, 14) := ⟨⟨by decide +kernel, by decide +kernel⟩, List.mem_of_getElem? (i := 14) (by decide +kernel), List.mem_of_getElem? (i := 652) (by decide +kernel), List.mem_of_getElem? (i := 653) (by decide +kernel)⟩
theorem lw_p49 : lw_okq (⟨"RiichiTable", "payStick", "()V"⟩, 14) := ⟨⟨by decide +kernel, by decide +kernel⟩, List.mem_of_getElem? (i := 14) (by decide +kernel), List.mem_of_getElem? (i := 660) (by decide +kernel), List.mem_of_getElem? (i := 661) (by decide +kernel)⟩
theorem lw_p50 : lw_okq (⟨"RiichiTable", "handOver", "()V"⟩, 14) := ⟨⟨by decide +kernel, by decide +kernel⟩, List.mem_of_getElem? (i := 14) (by decide +kernel), List.mem_of_getElem? (i := 664) (by decide +kernel), List.mem_of_getElem? (i := 665) (by decide +kernel)⟩
theorem lw_p51 : lw_okq (⟨"RiichiTable", "layDown", "(III)V"⟩, 14) := ⟨⟨by decide +kernel, by decide +kernel⟩, List.mem_of_getElem? (i := 14) (by decide +kernel), List.mem_of_getElem? (i := 668) (by decide +kernel), List.mem_of_getElem? (i := 669) (by decide +kernel)⟩
theorem lw_p52 : lw_okq (⟨"RiichiTable", "drawOut", "()V"⟩, 14) := ⟨⟨by decide +kernel, by decide +kernel⟩, List.mem_of_getElem? (i := 14) (by decide +kernel), List.mem_of_getElem? (i := 681) (by decide +kernel), List.mem_of_getElem? (i := 682) (by decide +kernel)⟩
theorem lw_p53 : lw_okq (⟨"RiichiTable", "mayAnswer", "(LRiichiTable$Player;II)Z"⟩, 14) := ⟨⟨by decide +kernel, by decide +kernel⟩, List.mem_of_getElem? (i := 14) (by decide +kernel), List.mem_of_getElem? (i := 714) (by decide +kernel), List.mem_of_getElem? (i := 715) (by decide +kernel)⟩
theorem lw_p54 : lw_okq (⟨"RiichiTable", "isHandShown", "()Z"⟩, 14) := ⟨⟨by decide +kernel, by decide +kernel⟩, List.mem_of_getElem? (i := 14) (by decide +kernel), List.mem_of_getElem? (i := 738) (by decide +kernel), List.mem_of_getElem? (i := 739) (by decide +kernel)⟩
theorem lw_p55 : lw_okq (⟨"RiichiTableModel", "shuffle", "()V"⟩, 50) := ⟨⟨by decide +kernel, by decide +kernel⟩, List.mem_of_getElem? (i := 781) (by decide +kernel), List.mem_of_getElem? (i := 787) (by decide +kernel), List.mem_of_getElem? (i := 788) (by decide +kernel)⟩
theorem lw_p56 : lw_okq (⟨"RiichiTableModel", "draw", "(I)I"⟩, 50) := ⟨⟨by decide +kernel, by decide +kernel⟩, List.mem_of_getElem? (i := 781) (by decide +kernel), List.mem_of_getElem? (i := 791) (by decide +kernel), List.mem_of_getElem? (i := 792) (by decide +kernel)⟩
theorem lw_p57 : lw_okq (⟨"RiichiTableModel", "drawFor", "(I)V"⟩, 50) := ⟨⟨by decide +kernel, by decide +kernel⟩, List.mem_of_getElem? (i := 781) (by decide +kernel), List.mem_of_getElem? (i := 957) (by decide +kernel), List.mem_of_getElem? (i := 958) (by decide +kernel)⟩
theorem lw_p58 : lw_okq (⟨"RiichiTableModel", "left", "()I"⟩, 50) := ⟨⟨by decide +kernel, by decide +kernel⟩, List.mem_of_getElem? (i := 781) (by decide +kernel), List.mem_of_getElem? (i := 961) (by decide +kernel), List.mem_of_getElem? (i := 962) (by decide +kernel)⟩
theorem lw_p59 : lw_okq (⟨"RiichiTableModel", "drawnOut", "()V"⟩, 50) := ⟨⟨by decide +kernel, by decide +kernel⟩, List.mem_of_getElem? (i := 781) (by decide +kernel), List.mem_of_getElem? (i := 965) (by decide +kernel), List.mem_of_getElem? (i := 966) (by decide +kernel)⟩
theorem lw_p60 : lw_okq (⟨"RiichiTableModel", "waitsOf", "(I)J"⟩, 50) := ⟨⟨by decide +kernel, by decide +kernel⟩, List.mem_of_getElem? (i := 781) (by decide +kernel), List.mem_of_getElem? (i := 969) (by decide +kernel), List.mem_of_getElem? (i := 970) (by decide +kernel)⟩
theorem lw_p61 : lw_okq (⟨"RiichiTableModel", "load", "(II)I"⟩, 50) := ⟨⟨by decide +kernel, by decide +kernel⟩, List.mem_of_getElem? (i := 781) (by decide +kernel), List.mem_of_getElem? (i := 973) (by decide +kernel), List.mem_of_getElem? (i := 974) (by decide +kernel)⟩
theorem lw_p62 : lw_okq (⟨"RiichiTableModel", "held", "(II)I"⟩, 50) := ⟨⟨by decide +kernel, by decide +kernel⟩, List.mem_of_getElem? (i := 781) (by decide +kernel), List.mem_of_getElem? (i := 977) (by decide +kernel), List.mem_of_getElem? (i := 978) (by decide +kernel)⟩
theorem lw_p63 : lw_okq (⟨"RiichiTableModel", "complete", "(II)Z"⟩, 50) := ⟨⟨by decide +kernel, by decide +kernel⟩, List.mem_of_getElem? (i := 781) (by decide +kernel), List.mem_of_getElem? (i := 981) (by decide +kernel), List.mem_of_getElem? (i := 982) (by decide +kernel)⟩
def lw_privs_4 : List (MethodName × Nat) := [(⟨"RiichiTable", "noteCall", "()V"⟩, 14), (⟨"RiichiTable", "payStick", "()V"⟩, 14), (⟨"RiichiTable", "handOver", "()V"⟩, 14), (⟨"RiichiTable", "layDown", "(III)V"⟩, 14), (⟨"RiichiTable", "drawOut", "()V"⟩, 14), (⟨"RiichiTable", "mayAnswer", "(LRiichiTable$Player;II)Z"⟩, 14), (⟨"RiichiTable", "isHandShown", "()Z"⟩, 14), (⟨"RiichiTableModel", "shuffle", "()V"⟩, 50), (⟨"RiichiTableModel", "draw", "(I)I"⟩, 50), (⟨"RiichiTableModel", "drawFor", "(I)V"⟩, 50), (⟨"RiichiTableModel", "left", "()I"⟩, 50), (⟨"RiichiTableModel", "drawnOut", "()V"⟩, 50), (⟨"RiichiTableModel", "waitsOf", "(I)J"⟩, 50), (⟨"RiichiTableModel", "load", "(II)I"⟩, 50), (⟨"RiichiTableModel", "held", "(II)I"⟩, 50), (⟨"RiichiTableModel", "complete", "(II)Z"⟩, 50)]
theorem lw_r4 : ∀ q ∈ lw_privs_4, lw_okq q := List.forall_mem_cons.mpr ⟨lw_p48, List.forall_mem_cons.mpr ⟨lw_p49, List.forall_mem_cons.mpr ⟨lw_p50, List.forall_mem_cons.mpr ⟨lw_p51, List.forall_mem_cons.mpr ⟨lw_p52, List.forall_mem_cons.mpr ⟨lw_p53, List.forall_mem_cons.mpr ⟨lw_p54, List.forall_mem_cons.mpr ⟨lw_p55, List.forall_mem_cons.mpr ⟨lw_p56, List.forall_mem_cons.mpr ⟨lw_p57, List.forall_mem_cons.mpr ⟨lw_p58, List.forall_mem_cons.mpr ⟨lw_p59, List.forall_mem_cons.mpr ⟨lw_p60, List.forall_mem_cons.mpr ⟨lw_p61, List.forall_mem_cons.mpr ⟨lw_p62, List.forall_mem_cons.mpr ⟨lw_p63, fun _ h => absurd h List.not_mem_nil⟩⟩⟩⟩⟩⟩⟩⟩⟩⟩⟩⟩⟩⟩⟩⟩
theorem lw_p64 : lw_okq (⟨"RiichiTableModel", "isPairs", "()Z"⟩, 50) := ⟨⟨by decide +kernel, by decide +kernel⟩, List.mem_of_getElem? (i := 781) (by decide +kernel), List.mem_of_getElem? (i := 985) (by decide +kernel), List.mem_of_getElem? (i := 986) (by decide +kernel)⟩
theorem lw_p65 : lw_okq (⟨"RiichiTableModel", "isOrphans", "()Z"⟩, 50) := ⟨⟨by decide +kernel, by decide +kernel⟩, List.mem_of_getElem? (i := 781) (by decide +kernel), List.mem_of_getElem? (i := 989) (by decide +kernel), List.mem_of_getElem? (i := 990) (by decide +kernel)⟩
theorem lw_p66 : lw_okq (⟨"RiichiTableModel", "threes", "()I"⟩, 50) := ⟨⟨by decide +kernel, by decide +kernel⟩, List.mem_of_getElem? (i := 781) (by decide +kernel), List.mem_of_getElem? (i := 996) (by decide +kernel), List.mem_of_getElem? (i := 997) (by decide +kernel)⟩
theorem lw_p67 : lw_okq (⟨"RiichiTableModel", "apart", "(II)Z"⟩, 50) := ⟨⟨by decide +kernel, by decide +kernel⟩, List.mem_of_getElem? (i := 781) (by decide +kernel), List.mem_of_getElem? (i := 1000) (by decide +kernel), List.mem_of_getElem? (i := 1001) (by decide +kernel)⟩
theorem lw_p68 : lw_okq (⟨"RiichiTableModel", "add", "(II)V"⟩, 50) := ⟨⟨by decide +kernel, by decide +kernel⟩, List.mem_of_getElem? (i := 781) (by decide +kernel), List.mem_of_getElem? (i := 1004) (by decide +kernel), List.mem_of_getElem? (i := 1005) (by decide +kernel)⟩
theorem lw_p69 : lw_okq (⟨"RiichiTableModel", "end", "(ZZ)V"⟩, 50) := ⟨⟨by decide +kernel, by decide +kernel⟩, List.mem_of_getElem? (i := 781) (by decide +kernel), List.mem_of_getElem? (i := 1011) (by decide +kernel), List.mem_of_getElem? (i := 1012) (by decide +kernel)⟩
theorem lw_p70 : lw_okq (⟨"RiichiTableModel", "take", "(IIZ)V"⟩, 50) := ⟨⟨by decide +kernel, by decide +kernel⟩, List.mem_of_getElem? (i := 781) (by decide +kernel), List.mem_of_getElem? (i := 1015) (by decide +kernel), List.mem_of_getElem? (i := 1016) (by decide +kernel)⟩
theorem lw_p71 : lw_okq (⟨"RiichiTableModel", "isTurn", "()Z"⟩, 50) := ⟨⟨by decide +kernel, by decide +kernel⟩, List.mem_of_getElem? (i := 781) (by decide +kernel), List.mem_of_getElem? (i := 1023) (by decide +kernel), List.mem_of_getElem? (i := 1024) (by decide +kernel)⟩
theorem lw_p72 : lw_okq (⟨"RiichiTableModel", "isClosed", "(I)Z"⟩, 50) := ⟨⟨by decide +kernel, by decide +kernel⟩, List.mem_of_getElem? (i := 781) (by decide +kernel), List.mem_of_getElem? (i := 1027) (by decide +kernel), List.mem_of_getElem? (i := 1028) (by decide +kernel)⟩
theorem lw_p73 : lw_okq (⟨"RiichiTableModel", "ask", "(IZ)V"⟩, 50) := ⟨⟨by decide +kernel, by decide +kernel⟩, List.mem_of_getElem? (i := 781) (by decide +kernel), List.mem_of_getElem? (i := 1031) (by decide +kernel), List.mem_of_getElem? (i := 1032) (by decide +kernel)⟩
theorem lw_p74 : lw_okq (⟨"RiichiTableModel", "worthy", "(IIZZ)Z"⟩, 50) := ⟨⟨by decide +kernel, by decide +kernel⟩, List.mem_of_getElem? (i := 781) (by decide +kernel), List.mem_of_getElem? (i := 1035) (by decide +kernel), List.mem_of_getElem? (i := 1036) (by decide +kernel)⟩
theorem lw_p75 : lw_okq (⟨"RiichiTableModel", "happened", "()J"⟩, 50) := ⟨⟨by decide +kernel, by decide +kernel⟩, List.mem_of_getElem? (i := 781) (by decide +kernel), List.mem_of_getElem? (i := 1039) (by decide +kernel), List.mem_of_getElem? (i := 1040) (by decide +kernel)⟩
theorem lw_p76 : lw_okq (⟨"RiichiTableModel", "bit", "(ZI)J"⟩, 50) := ⟨⟨by decide +kernel, by decide +kernel⟩, List.mem_of_getElem? (i := 781) (by decide +kernel), List.mem_of_getElem? (i := 1043) (by decide +kernel), List.mem_of_getElem? (i := 1044) (by decide +kernel)⟩
theorem lw_p77 : lw_okq (⟨"RiichiTableModel", "ofTiles", "()J"⟩, 50) := ⟨⟨by decide +kernel, by decide +kernel⟩, List.mem_of_getElem? (i := 781) (by decide +kernel), List.mem_of_getElem? (i := 1047) (by decide +kernel), List.mem_of_getElem? (i := 1048) (by decide +kernel)⟩
theorem lw_p78 : lw_okq (⟨"RiichiTableModel", "suits", "()I"⟩, 50) := ⟨⟨by decide +kernel, by decide +kernel⟩, List.mem_of_getElem? (i := 781) (by decide +kernel), List.mem_of_getElem? (i := 1051) (by decide +kernel), List.mem_of_getElem? (i := 1052) (by decide +kernel)⟩
theorem lw_p79 : lw_okq (⟨"RiichiTableModel", "nineGates", "()Z"⟩, 50) := ⟨⟨by decide +kernel, by decide +kernel⟩, List.mem_of_getElem? (i := 781) (by decide +kernel), List.mem_of_getElem? (i := 1055) (by decide +kernel), List.mem_of_getElem? (i := 1056) (by decide +kernel)⟩
def lw_privs_5 : List (MethodName × Nat) := [(⟨"RiichiTableModel", "isPairs", "()Z"⟩, 50), (⟨"RiichiTableModel", "isOrphans", "()Z"⟩, 50), (⟨"RiichiTableModel", "threes", "()I"⟩, 50), (⟨"RiichiTableModel", "apart", "(II)Z"⟩, 50), (⟨"RiichiTableModel", "add", "(II)V"⟩, 50), (⟨"RiichiTableModel", "end", "(ZZ)V"⟩, 50), (⟨"RiichiTableModel", "take", "(IIZ)V"⟩, 50), (⟨"RiichiTableModel", "isTurn", "()Z"⟩, 50), (⟨"RiichiTableModel", "isClosed", "(I)Z"⟩, 50), (⟨"RiichiTableModel", "ask", "(IZ)V"⟩, 50), (⟨"RiichiTableModel", "worthy", "(IIZZ)Z"⟩, 50), (⟨"RiichiTableModel", "happened", "()J"⟩, 50), (⟨"RiichiTableModel", "bit", "(ZI)J"⟩, 50), (⟨"RiichiTableModel", "ofTiles", "()J"⟩, 50), (⟨"RiichiTableModel", "suits", "()I"⟩, 50), (⟨"RiichiTableModel", "nineGates", "()Z"⟩, 50)]
theorem lw_r5 : ∀ q ∈ lw_privs_5, lw_okq q := List.forall_mem_cons.mpr ⟨lw_p64, List.forall_mem_cons.mpr ⟨lw_p65, List.forall_mem_cons.mpr ⟨lw_p66, List.forall_mem_cons.mpr ⟨lw_p67, List.forall_mem_cons.mpr ⟨lw_p68, List.forall_mem_cons.mpr ⟨lw_p69, List.forall_mem_cons.mpr ⟨lw_p70, List.forall_mem_cons.mpr ⟨lw_p71, List.forall_mem_cons.mpr ⟨lw_p72, List.forall_mem_cons.mpr ⟨lw_p73, List.forall_mem_cons.mpr ⟨lw_p74, List.forall_mem_cons.mpr ⟨lw_p75, List.forall_mem_cons.mpr ⟨lw_p76, List.forall_mem_cons.mpr ⟨lw_p77, List.forall_mem_cons.mpr ⟨lw_p78, List.forall_mem_cons.mpr ⟨lw_p79, fun _ h => absurd h List.not_mem_nil⟩⟩⟩⟩⟩⟩⟩⟩⟩⟩⟩⟩⟩⟩⟩⟩
theorem lw_p80 : lw_okq (⟨"RiichiTableModel", "judge", "(JI)V"⟩, 50) := ⟨⟨by decide +kernel, by decide +kernel⟩, List.mem_of_getElem? (i := 781) (by decide +kernel), List.mem_of_getElem? (i := 1060) (by decide +kernel), List.mem_of_getElem? (i := 1061) (by decide +kernel)⟩
theorem lw_p81 : lw_okq (⟨"RiichiTableModel", "doras", "()I"⟩, 50) := ⟨⟨by decide +kernel, by decide +kernel⟩, List.mem_of_getElem? (i := 781) (by decide +kernel), List.mem_of_getElem? (i := 1067) (by decide +kernel), List.mem_of_getElem? (i := 1068) (by decide +kernel)⟩
theorem lw_p82 : lw_okq (⟨"RiichiTableModel", "judgeSets", "(J)V"⟩, 50) := ⟨⟨by decide +kernel, by decide +kernel⟩, List.mem_of_getElem? (i := 781) (by decide +kernel), List.mem_of_getElem? (i := 1081) (by decide +kernel), List.mem_of_getElem? (i := 1082) (by decide +kernel)⟩
theorem lw_p83 : lw_okq (⟨"RiichiTableModel", "ofRuns", "()J"⟩, 50) := ⟨⟨by decide +kernel, by decide +kernel⟩, List.mem_of_getElem? (i := 781) (by decide +kernel), List.mem_of_getElem? (i := 1085) (by decide +kernel), List.mem_of_getElem? (i := 1086) (by decide +kernel)⟩
theorem lw_p84 : lw_okq (⟨"RiichiTableModel", "twins", "()I"⟩, 50) := ⟨⟨by decide +kernel, by decide +kernel⟩, List.mem_of_getElem? (i := 781) (by decide +kernel), List.mem_of_getElem? (i := 1089) (by decide +kernel), List.mem_of_getElem? (i := 1090) (by decide +kernel)⟩
theorem lw_p85 : lw_okq (⟨"RiichiTableModel", "isSet", "(III)Z"⟩, 50) := ⟨⟨by decide +kernel, by decide +kernel⟩, List.mem_of_getElem? (i := 781) (by decide +kernel), List.mem_of_getElem? (i := 1093) (by decide +kernel), List.mem_of_getElem? (i := 1094) (by decide +kernel)⟩
theorem lw_p86 : lw_okq (⟨"RiichiTableModel", "flat", "()Z"⟩, 50) := ⟨⟨by decide +kernel, by decide +kernel⟩, List.mem_of_getElem? (i := 781) (by decide +kernel), List.mem_of_getElem? (i := 1097) (by decide +kernel), List.mem_of_getElem? (i := 1098) (by decide +kernel)⟩
theorem lw_p87 : lw_okq (⟨"RiichiTableModel", "seatWind", "()I"⟩, 50) := ⟨⟨by decide +kernel, by decide +kernel⟩, List.mem_of_getElem? (i := 781) (by decide +kernel), List.mem_of_getElem? (i := 1101) (by decide +kernel), List.mem_of_getElem? (i := 1102) (by decide +kernel)⟩
theorem lw_p88 : lw_okq (⟨"RiichiTableModel", "runs", "()I"⟩, 50) := ⟨⟨by decide +kernel, by decide +kernel⟩, List.mem_of_getElem? (i := 781) (by decide +kernel), List.mem_of_getElem? (i := 1105) (by decide +kernel), List.mem_of_getElem? (i := 1106) (by decide +kernel)⟩
theorem lw_p89 : lw_okq (⟨"RiichiTableModel", "hasRun", "(I)Z"⟩, 50) := ⟨⟨by decide +kernel, by decide +kernel⟩, List.mem_of_getElem? (i := 781) (by decide +kernel), List.mem_of_getElem? (i := 1109) (by decide +kernel), List.mem_of_getElem? (i := 1110) (by decide +kernel)⟩
theorem lw_p90 : lw_okq (⟨"RiichiTableModel", "ofTriplets", "()J"⟩, 50) := ⟨⟨by decide +kernel, by decide +kernel⟩, List.mem_of_getElem? (i := 781) (by decide +kernel), List.mem_of_getElem? (i := 1113) (by decide +kernel), List.mem_of_getElem? (i := 1114) (by decide +kernel)⟩
theorem lw_p91 : lw_okq (⟨"RiichiTableModel", "isClosedSet", "(I)Z"⟩, 50) := ⟨⟨by decide +kernel, by decide +kernel⟩, List.mem_of_getElem? (i := 781) (by decide +kernel), List.mem_of_getElem? (i := 1117) (by decide +kernel), List.mem_of_getElem? (i := 1118) (by decide +kernel)⟩
theorem lw_p92 : lw_okq (⟨"RiichiTableModel", "has", "(I)Z"⟩, 50) := ⟨⟨by decide +kernel, by decide +kernel⟩, List.mem_of_getElem? (i := 781) (by decide +kernel), List.mem_of_getElem? (i := 1121) (by decide +kernel), List.mem_of_getElem? (i := 1122) (by decide +kernel)⟩
theorem lw_p93 : lw_okq (⟨"RiichiTableModel", "fuOfSets", "(J)I"⟩, 50) := ⟨⟨by decide +kernel, by decide +kernel⟩, List.mem_of_getElem? (i := 781) (by decide +kernel), List.mem_of_getElem? (i := 1125) (by decide +kernel), List.mem_of_getElem? (i := 1126) (by decide +kernel)⟩
theorem lw_p94 : lw_okq (⟨"RiichiTableModel", "isFuriten", "(I)Z"⟩, 50) := ⟨⟨by decide +kernel, by decide +kernel⟩, List.mem_of_getElem? (i := 781) (by decide +kernel), List.mem_of_getElem? (i := 1129) (by decide +kernel), List.mem_of_getElem? (i := 1130) (by decide +kernel)⟩
theorem lw_p95 : lw_okq (⟨"RiichiTableModel", "ownWait", "(I)Z"⟩, 50) := ⟨⟨by decide +kernel, by decide +kernel⟩, List.mem_of_getElem? (i := 781) (by decide +kernel), List.mem_of_getElem? (i := 1133) (by decide +kernel), List.mem_of_getElem? (i := 1134) (by decide +kernel)⟩
def lw_privs_6 : List (MethodName × Nat) := [(⟨"RiichiTableModel", "judge", "(JI)V"⟩, 50), (⟨"RiichiTableModel", "doras", "()I"⟩, 50), (⟨"RiichiTableModel", "judgeSets", "(J)V"⟩, 50), (⟨"RiichiTableModel", "ofRuns", "()J"⟩, 50), (⟨"RiichiTableModel", "twins", "()I"⟩, 50), (⟨"RiichiTableModel", "isSet", "(III)Z"⟩, 50), (⟨"RiichiTableModel", "flat", "()Z"⟩, 50), (⟨"RiichiTableModel", "seatWind", "()I"⟩, 50), (⟨"RiichiTableModel", "runs", "()I"⟩, 50), (⟨"RiichiTableModel", "hasRun", "(I)Z"⟩, 50), (⟨"RiichiTableModel", "ofTriplets", "()J"⟩, 50), (⟨"RiichiTableModel", "isClosedSet", "(I)Z"⟩, 50), (⟨"RiichiTableModel", "has", "(I)Z"⟩, 50), (⟨"RiichiTableModel", "fuOfSets", "(J)I"⟩, 50), (⟨"RiichiTableModel", "isFuriten", "(I)Z"⟩, 50), (⟨"RiichiTableModel", "ownWait", "(I)Z"⟩, 50)]
theorem lw_r6 : ∀ q ∈ lw_privs_6, lw_okq q := List.forall_mem_cons.mpr ⟨lw_p80, List.forall_mem_cons.mpr ⟨lw_p81, List.forall_mem_cons.mpr ⟨lw_p82, List.forall_mem_cons.mpr ⟨lw_p83, List.forall_mem_cons.mpr ⟨lw_p84, List.forall_mem_cons.mpr ⟨lw_p85, List.forall_mem_cons.mpr ⟨lw_p86, List.forall_mem_cons.mpr ⟨lw_p87, List.forall_mem_cons.mpr ⟨lw_p88, List.forall_mem_cons.mpr ⟨lw_p89, List.forall_mem_cons.mpr ⟨lw_p90, List.forall_mem_cons.mpr ⟨lw_p91, List.forall_mem_cons.mpr ⟨lw_p92, List.forall_mem_cons.mpr ⟨lw_p93, List.forall_mem_cons.mpr ⟨lw_p94, List.forall_mem_cons.mpr ⟨lw_p95, fun _ h => absurd h List.not_mem_nil⟩⟩⟩⟩⟩⟩⟩⟩⟩⟩⟩⟩⟩⟩⟩⟩
theorem lw_p96 : lw_okq (⟨"RiichiTableModel", "runOptions", "(II)I"⟩, 50) := ⟨⟨by decide +kernel, by decide +kernel⟩, List.mem_of_getElem? (i := 781) (by decide +kernel), List.mem_of_getElem? (i := 1137) (by decide +kernel), List.mem_of_getElem? (i := 1138) (by decide +kernel)⟩
theorem lw_p97 : lw_okq (⟨"RiichiTableModel", "canRun", "(III)Z"⟩, 50) := ⟨⟨by decide +kernel, by decide +kernel⟩, List.mem_of_getElem? (i := 781) (by decide +kernel), List.mem_of_getElem? (i := 1141) (by decide +kernel), List.mem_of_getElem? (i := 1142) (by decide +kernel)⟩
theorem lw_p98 : lw_okq (⟨"RiichiTableModel", "settle", "()V"⟩, 50) := ⟨⟨by decide +kernel, by decide +kernel⟩, List.mem_of_getElem? (i := 781) (by decide +kernel), List.mem_of_getElem? (i := 1145) (by decide +kernel), List.mem_of_getElem? (i := 1146) (by decide +kernel)⟩
theorem lw_p99 : lw_okq (⟨"RiichiTableModel", "answered", "(I)I"⟩, 50) := ⟨⟨by decide +kernel, by decide +kernel⟩, List.mem_of_getElem? (i := 781) (by decide +kernel), List.mem_of_getElem? (i := 1149) (by decide +kernel), List.mem_of_getElem? (i := 1150) (by decide +kernel)⟩
theorem lw_p100 : lw_okq (⟨"RiichiTableModel", "winByTile", "()V"⟩, 50) := ⟨⟨by decide +kernel, by decide +kernel⟩, List.mem_of_getElem? (i := 781) (by decide +kernel), List.mem_of_getElem? (i := 1153) (by decide +kernel), List.mem_of_getElem? (i := 1154) (by decide +kernel)⟩
theorem lw_p101 : lw_okq (⟨"RiichiTableModel", "keep", "(II)V"⟩, 50) := ⟨⟨by decide +kernel, by decide +kernel⟩, List.mem_of_getElem? (i := 781) (by decide +kernel), List.mem_of_getElem? (i := 1160) (by decide +kernel), List.mem_of_getElem? (i := 1161) (by decide +kernel)⟩
theorem lw_p102 : lw_okq (⟨"RiichiTableModel", "completeAdded", "()V"⟩, 50) := ⟨⟨by decide +kernel, by decide +kernel⟩, List.mem_of_getElem? (i := 781) (by decide +kernel), List.mem_of_getElem? (i := 1164) (by decide +kernel), List.mem_of_getElem? (i := 1165) (by decide +kernel)⟩
theorem lw_p103 : lw_okq (⟨"RiichiTableModel", "tripletPlace", "(II)I"⟩, 50) := ⟨⟨by decide +kernel, by decide +kernel⟩, List.mem_of_getElem? (i := 781) (by decide +kernel), List.mem_of_getElem? (i := 1168) (by decide +kernel), List.mem_of_getElem? (i := 1169) (by decide +kernel)⟩
theorem lw_p104 : lw_okq (⟨"RiichiTableModel", "completeQuad", "(I)V"⟩, 50) := ⟨⟨by decide +kernel, by decide +kernel⟩, List.mem_of_getElem? (i := 781) (by decide +kernel), List.mem_of_getElem? (i := 1172) (by decide +kernel), List.mem_of_getElem? (i := 1173) (by decide +kernel)⟩
theorem lw_p105 : lw_okq (⟨"RiichiTableModel", "stopEarly", "()V"⟩, 50) := ⟨⟨by decide +kernel, by decide +kernel⟩, List.mem_of_getElem? (i := 781) (by decide +kernel), List.mem_of_getElem? (i := 1176) (by decide +kernel), List.mem_of_getElem? (i := 1177) (by decide +kernel)⟩
theorem lw_p106 : lw_okq (⟨"RiichiTableModel", "payStick", "()V"⟩, 50) := ⟨⟨by decide +kernel, by decide +kernel⟩, List.mem_of_getElem? (i := 781) (by decide +kernel), List.mem_of_getElem? (i := 1180) (by decide +kernel), List.mem_of_getElem? (i := 1181) (by decide +kernel)⟩
theorem lw_p107 : lw_okq (⟨"RiichiTableModel", "call", "()V"⟩, 50) := ⟨⟨by decide +kernel, by decide +kernel⟩, List.mem_of_getElem? (i := 781) (by decide +kernel), List.mem_of_getElem? (i := 1184) (by decide +kernel), List.mem_of_getElem? (i := 1185) (by decide +kernel)⟩
theorem lw_p108 : lw_okq (⟨"RiichiTableModel", "lay", "(III)V"⟩, 50) := ⟨⟨by decide +kernel, by decide +kernel⟩, List.mem_of_getElem? (i := 781) (by decide +kernel), List.mem_of_getElem? (i := 1188) (by decide +kernel), List.mem_of_getElem? (i := 1189) (by decide +kernel)⟩
theorem lw_p109 : lw_okq (⟨"RiichiTableModel", "shows", "(I)Z"⟩, 50) := ⟨⟨by decide +kernel, by decide +kernel⟩, List.mem_of_getElem? (i := 781) (by decide +kernel), List.mem_of_getElem? (i := 1228) (by decide +kernel), List.mem_of_getElem? (i := 1229) (by decide +kernel)⟩
def lw_privs_7 : List (MethodName × Nat) := [(⟨"RiichiTableModel", "runOptions", "(II)I"⟩, 50), (⟨"RiichiTableModel", "canRun", "(III)Z"⟩, 50), (⟨"RiichiTableModel", "settle", "()V"⟩, 50), (⟨"RiichiTableModel", "answered", "(I)I"⟩, 50), (⟨"RiichiTableModel", "winByTile", "()V"⟩, 50), (⟨"RiichiTableModel", "keep", "(II)V"⟩, 50), (⟨"RiichiTableModel", "completeAdded", "()V"⟩, 50), (⟨"RiichiTableModel", "tripletPlace", "(II)I"⟩, 50), (⟨"RiichiTableModel", "completeQuad", "(I)V"⟩, 50), (⟨"RiichiTableModel", "stopEarly", "()V"⟩, 50), (⟨"RiichiTableModel", "payStick", "()V"⟩, 50), (⟨"RiichiTableModel", "call", "()V"⟩, 50), (⟨"RiichiTableModel", "lay", "(III)V"⟩, 50), (⟨"RiichiTableModel", "shows", "(I)Z"⟩, 50)]
theorem lw_r7 : ∀ q ∈ lw_privs_7, lw_okq q := List.forall_mem_cons.mpr ⟨lw_p96, List.forall_mem_cons.mpr ⟨lw_p97, List.forall_mem_cons.mpr ⟨lw_p98, List.forall_mem_cons.mpr ⟨lw_p99, List.forall_mem_cons.mpr ⟨lw_p100, List.forall_mem_cons.mpr ⟨lw_p101, List.forall_mem_cons.mpr ⟨lw_p102, List.forall_mem_cons.mpr ⟨lw_p103, List.forall_mem_cons.mpr ⟨lw_p104, List.forall_mem_cons.mpr ⟨lw_p105, List.forall_mem_cons.mpr ⟨lw_p106, List.forall_mem_cons.mpr ⟨lw_p107, List.forall_mem_cons.mpr ⟨lw_p108, List.forall_mem_cons.mpr ⟨lw_p109, fun _ h => absurd h List.not_mem_nil⟩⟩⟩⟩⟩⟩⟩⟩⟩⟩⟩⟩⟩⟩
def lw_privs : List (MethodName × Nat) := lw_privs_1 ++ (lw_privs_2 ++ (lw_privs_3 ++ (lw_privs_4 ++ (lw_privs_5 ++ (lw_privs_6 ++ (lw_privs_7))))))
def lw_tbl : List Cond := k2_sels lw_privs ++ tables_1
theorem lw_privs_ok : ∀ q ∈ lw_privs, lw_okq q := by
  show ∀ q ∈ lw_privs_1 ++ (lw_privs_2 ++ (lw_privs_3 ++ (lw_privs_4 ++ (lw_privs_5 ++ (lw_privs_6 ++ (lw_privs_7)))))), lw_okq q
  exact List.forall_mem_append.mpr ⟨lw_r1, List.forall_mem_append.mpr ⟨lw_r2, List.forall_mem_append.mpr ⟨lw_r3, List.forall_mem_append.mpr ⟨lw_r4, List.forall_mem_append.mpr ⟨lw_r5, List.forall_mem_append.mpr ⟨lw_r6, lw_r7⟩⟩⟩⟩⟩⟩
/-! the words that a callee may take along, and those of nest mates -/
def zq_nw : Cond → Bool
  | .fieldLinkNest .. => true
  | .methodLinkNest .. => true
  | _ => false
def zq_ws : List Cond := lw_tbl.filter goodWord
def zq_nest : List Cond := lw_tbl.filter zq_nw
theorem zq_in {w : Cond} (h : w ∈ lw_tbl) (g : goodWord w = true) : w ∈ zq_ws := List.mem_filter.mpr ⟨h, g⟩
theorem zq_inN {w : Cond} (h : w ∈ lw_tbl) (g : zq_nw w = true) : w ∈ zq_nest := List.mem_filter.mpr ⟨h, g⟩
theorem zq_tb {w : Cond} (h : w ∈ tables_1) : w ∈ lw_tbl := List.mem_append_right _ h
theorem zq_sl {q : MethodName × Nat} (h : q ∈ lw_privs) : Cond.selects q.1.cls q.1 q.1 ∈ lw_tbl := List.mem_append_left _ (List.mem_map.mpr ⟨q, h, rfl⟩)
theorem zq_c1 {w : Cond} (h : w ∈ tables_1_1) : w ∈ lw_tbl := zq_tb (List.mem_append_left _ h)
theorem zq_c2 {w : Cond} (h : w ∈ tables_1_2) : w ∈ lw_tbl := zq_tb (List.mem_append_right _ (List.mem_append_left _ h))
theorem zq_c3 {w : Cond} (h : w ∈ tables_1_3) : w ∈ lw_tbl := zq_tb (List.mem_append_right _ (List.mem_append_right _ (List.mem_append_left _ h)))
theorem zq_c4 {w : Cond} (h : w ∈ tables_1_4) : w ∈ lw_tbl := zq_tb (List.mem_append_right _ (List.mem_append_right _ (List.mem_append_right _ (List.mem_append_left _ h))))
theorem zq_c5 {w : Cond} (h : w ∈ tables_1_5) : w ∈ lw_tbl := zq_tb (List.mem_append_right _ (List.mem_append_right _ (List.mem_append_right _ (List.mem_append_right _ (List.mem_append_left _ h)))))
theorem zq_c6 {w : Cond} (h : w ∈ tables_1_6) : w ∈ lw_tbl := zq_tb (List.mem_append_right _ (List.mem_append_right _ (List.mem_append_right _ (List.mem_append_right _ (List.mem_append_right _ (h))))))
def zq_T_Table : u_T := fun k => match k with
  | 0 => ("RiichiTable", "wall", "LRiichiTable$Wall;", true)
  | 1 => ("RiichiTable", "players", "[LRiichiTable$Player;", true)
  | 2 => ("RiichiTable", "judge", "LRiichiTable$Judge;", true)
  | 3 => ("RiichiTable", "phase", "I", false)
  | 4 => ("RiichiTable", "dealer", "I", false)
  | 5 => ("RiichiTable", "round", "I", false)
  | 6 => ("RiichiTable", "honba", "I", false)
  | 7 => ("RiichiTable", "sticks", "I", false)
  | 8 => ("RiichiTable", "who", "I", false)
  | 9 => ("RiichiTable", "tile", "I", false)
  | 10 => ("RiichiTable", "replacement", "Z", false)
  | 11 => ("RiichiTable", "robbing", "Z", false)
  | 12 => ("RiichiTable", "stickDue", "Z", false)
  | _ => ("RiichiTable", "called", "Z", false)
def zq_y_Table : Nat → FieldType := fun k => match k with
  | 0 => .object "RiichiTable$Wall"
  | 1 => .array (.object "RiichiTable$Player")
  | 2 => .object "RiichiTable$Judge"
  | 3 => .int
  | 4 => .int
  | 5 => .int
  | 6 => .int
  | 7 => .int
  | 8 => .int
  | 9 => .int
  | 10 => .boolean
  | 11 => .boolean
  | 12 => .boolean
  | _ => .boolean
theorem zq_n_Table : ∀ a, a < 14 → ∀ b, b < 14 → a ≠ b → (zq_T_Table a).2.1 ≠ (zq_T_Table b).2.1 := by decide +kernel
theorem zq_ok_Table : ∀ k, k < 14 → parseFieldDescriptor (zq_T_Table k).2.2.1 = some (zq_y_Table k) := by decide +kernel
theorem zq_i_Table : ∀ w ∈ u_ws "RiichiTable" zq_T_Table 14, w ∈ zq_ws := fun w h => zq_in ((by decide +kernel : ∀ w ∈ u_ws "RiichiTable" zq_T_Table 14, w ∈ lw_tbl) w h) ((by decide +kernel : ∀ w ∈ u_ws "RiichiTable" zq_T_Table 14, goodWord w = true) w h)
def zq_T_Wall : u_T := fun k => match k with
  | 0 => ("RiichiTable$Wall", "kinds", "[I", true)
  | 1 => ("RiichiTable$Wall", "x", "I", false)
  | 2 => ("RiichiTable$Wall", "place", "I", false)
  | _ => ("RiichiTable$Wall", "quads", "I", false)
def zq_y_Wall : Nat → FieldType := fun k => match k with
  | 0 => .array (.int)
  | 1 => .int
  | 2 => .int
  | _ => .int
theorem zq_n_Wall : ∀ a, a < 4 → ∀ b, b < 4 → a ≠ b → (zq_T_Wall a).2.1 ≠ (zq_T_Wall b).2.1 := by decide +kernel
theorem zq_ok_Wall : ∀ k, k < 4 → parseFieldDescriptor (zq_T_Wall k).2.2.1 = some (zq_y_Wall k) := by decide +kernel
theorem zq_i_Wall : ∀ w ∈ u_ws "RiichiTable$Wall" zq_T_Wall 4, w ∈ zq_ws := fun w h => zq_in ((by decide +kernel : ∀ w ∈ u_ws "RiichiTable$Wall" zq_T_Wall 4, w ∈ lw_tbl) w h) ((by decide +kernel : ∀ w ∈ u_ws "RiichiTable$Wall" zq_T_Wall 4, goodWord w = true) w h)
def zq_T_Player : u_T := fun k => match k with
  | 0 => ("RiichiTable$Player", "concealed", "[I", true)
  | 1 => ("RiichiTable$Player", "melds", "[I", true)
  | 2 => ("RiichiTable$Player", "meldCount", "I", false)
  | 3 => ("RiichiTable$Player", "river", "[I", true)
  | 4 => ("RiichiTable$Player", "riverCount", "I", false)
  | 5 => ("RiichiTable$Player", "discarded", "J", false)
  | 6 => ("RiichiTable$Player", "riichi", "I", false)
  | 7 => ("RiichiTable$Player", "fresh", "Z", false)
  | 8 => ("RiichiTable$Player", "missed", "Z", false)
  | 9 => ("RiichiTable$Player", "points", "I", false)
  | 10 => ("RiichiTable$Player", "options", "I", false)
  | 11 => ("RiichiTable$Player", "answer", "I", false)
  | 12 => ("RiichiTable$Player", "low", "I", false)
  | _ => ("RiichiTable$Player", "won", "LRiichiTable$Worth;", true)
def zq_y_Player : Nat → FieldType := fun k => match k with
  | 0 => .array (.int)
  | 1 => .array (.int)
  | 2 => .int
  | 3 => .array (.int)
  | 4 => .int
  | 5 => .long
  | 6 => .int
  | 7 => .boolean
  | 8 => .boolean
  | 9 => .int
  | 10 => .int
  | 11 => .int
  | 12 => .int
  | _ => .object "RiichiTable$Worth"
theorem zq_n_Player : ∀ a, a < 14 → ∀ b, b < 14 → a ≠ b → (zq_T_Player a).2.1 ≠ (zq_T_Player b).2.1 := by decide +kernel
theorem zq_ok_Player : ∀ k, k < 14 → parseFieldDescriptor (zq_T_Player k).2.2.1 = some (zq_y_Player k) := by decide +kernel
theorem zq_i_Player : ∀ w ∈ u_ws "RiichiTable$Player" zq_T_Player 14, w ∈ zq_ws := fun w h => zq_in ((by decide +kernel : ∀ w ∈ u_ws "RiichiTable$Player" zq_T_Player 14, w ∈ lw_tbl) w h) ((by decide +kernel : ∀ w ∈ u_ws "RiichiTable$Player" zq_T_Player 14, goodWord w = true) w h)
def zq_T_Worth : u_T := fun k => match k with
  | 0 => ("RiichiTable$Worth", "han", "I", false)
  | 1 => ("RiichiTable$Worth", "fu", "I", false)
  | 2 => ("RiichiTable$Worth", "base", "I", false)
  | 3 => ("RiichiTable$Worth", "got", "I", false)
  | _ => ("RiichiTable$Worth", "yaku", "J", false)
def zq_y_Worth : Nat → FieldType := fun k => match k with
  | 0 => .int
  | 1 => .int
  | 2 => .int
  | 3 => .int
  | _ => .long
theorem zq_n_Worth : ∀ a, a < 5 → ∀ b, b < 5 → a ≠ b → (zq_T_Worth a).2.1 ≠ (zq_T_Worth b).2.1 := by decide +kernel
theorem zq_ok_Worth : ∀ k, k < 5 → parseFieldDescriptor (zq_T_Worth k).2.2.1 = some (zq_y_Worth k) := by decide +kernel
theorem zq_i_Worth : ∀ w ∈ u_ws "RiichiTable$Worth" zq_T_Worth 5, w ∈ zq_ws := fun w h => zq_in ((by decide +kernel : ∀ w ∈ u_ws "RiichiTable$Worth" zq_T_Worth 5, w ∈ lw_tbl) w h) ((by decide +kernel : ∀ w ∈ u_ws "RiichiTable$Worth" zq_T_Worth 5, goodWord w = true) w h)
def zq_T_Judge : u_T := fun k => match k with
  | 0 => ("RiichiTable$Judge", "splitter", "LRiichiTable$Splitter;", true)
  | 1 => ("RiichiTable$Judge", "all", "[I", true)
  | 2 => ("RiichiTable$Judge", "sets", "[I", true)
  | 3 => ("RiichiTable$Judge", "pair", "I", false)
  | 4 => ("RiichiTable$Judge", "meldCount", "I", false)
  | 5 => ("RiichiTable$Judge", "closed", "Z", false)
  | 6 => ("RiichiTable$Judge", "last", "I", false)
  | 7 => ("RiichiTable$Judge", "lastAt", "I", false)
  | 8 => ("RiichiTable$Judge", "byDraw", "Z", false)
  | 9 => ("RiichiTable$Judge", "seatWind", "I", false)
  | 10 => ("RiichiTable$Judge", "roundWind", "I", false)
  | 11 => ("RiichiTable$Judge", "happened", "J", false)
  | 12 => ("RiichiTable$Judge", "dora", "I", false)
  | 13 => ("RiichiTable$Judge", "trial", "LRiichiTable$Worth;", true)
  | _ => ("RiichiTable$Judge", "best", "LRiichiTable$Worth;", true)
def zq_y_Judge : Nat → FieldType := fun k => match k with
  | 0 => .object "RiichiTable$Splitter"
  | 1 => .array (.int)
  | 2 => .array (.int)
  | 3 => .int
  | 4 => .int
  | 5 => .boolean
  | 6 => .int
  | 7 => .int
  | 8 => .boolean
  | 9 => .int
  | 10 => .int
  | 11 => .long
  | 12 => .int
  | 13 => .object "RiichiTable$Worth"
  | _ => .object "RiichiTable$Worth"
theorem zq_n_Judge : ∀ a, a < 15 → ∀ b, b < 15 → a ≠ b → (zq_T_Judge a).2.1 ≠ (zq_T_Judge b).2.1 := by decide +kernel
theorem zq_ok_Judge : ∀ k, k < 15 → parseFieldDescriptor (zq_T_Judge k).2.2.1 = some (zq_y_Judge k) := by decide +kernel
theorem zq_i_Judge : ∀ w ∈ u_ws "RiichiTable$Judge" zq_T_Judge 15, w ∈ zq_ws := fun w h => zq_in ((by decide +kernel : ∀ w ∈ u_ws "RiichiTable$Judge" zq_T_Judge 15, w ∈ lw_tbl) w h) ((by decide +kernel : ∀ w ∈ u_ws "RiichiTable$Judge" zq_T_Judge 15, goodWord w = true) w h)
def zq_T_Splitter : u_T := fun k => match k with
  | 0 => ("RiichiTable$Splitter", "tiles", "[I", true)
  | 1 => ("RiichiTable$Splitter", "sets", "[I", true)
  | 2 => ("RiichiTable$Splitter", "setCount", "I", false)
  | 3 => ("RiichiTable$Splitter", "pair", "I", false)
  | 4 => ("RiichiTable$Splitter", "ways", "[I", true)
  | _ => ("RiichiTable$Splitter", "wayCount", "I", false)
def zq_y_Splitter : Nat → FieldType := fun k => match k with
  | 0 => .array (.int)
  | 1 => .array (.int)
  | 2 => .int
  | 3 => .int
  | 4 => .array (.int)
  | _ => .int
theorem zq_n_Splitter : ∀ a, a < 6 → ∀ b, b < 6 → a ≠ b → (zq_T_Splitter a).2.1 ≠ (zq_T_Splitter b).2.1 := by decide +kernel
theorem zq_ok_Splitter : ∀ k, k < 6 → parseFieldDescriptor (zq_T_Splitter k).2.2.1 = some (zq_y_Splitter k) := by decide +kernel
theorem zq_i_Splitter : ∀ w ∈ u_ws "RiichiTable$Splitter" zq_T_Splitter 6, w ∈ zq_ws := fun w h => zq_in ((by decide +kernel : ∀ w ∈ u_ws "RiichiTable$Splitter" zq_T_Splitter 6, w ∈ lw_tbl) w h) ((by decide +kernel : ∀ w ∈ u_ws "RiichiTable$Splitter" zq_T_Splitter 6, goodWord w = true) w h)
def zq_T_Model : u_T := fun k => match k with
  | 0 => ("RiichiTableModel", "wall", "[I", true)
  | 1 => ("RiichiTableModel", "x", "I", false)
  | 2 => ("RiichiTableModel", "place", "I", false)
  | 3 => ("RiichiTableModel", "phase", "I", false)
  | 4 => ("RiichiTableModel", "turn", "I", false)
  | 5 => ("RiichiTableModel", "dealer", "I", false)
  | 6 => ("RiichiTableModel", "round", "I", false)
  | 7 => ("RiichiTableModel", "honba", "I", false)
  | 8 => ("RiichiTableModel", "sticks", "I", false)
  | 9 => ("RiichiTableModel", "points", "[I", true)
  | 10 => ("RiichiTableModel", "concealed", "[I", true)
  | 11 => ("RiichiTableModel", "melds", "[I", true)
  | 12 => ("RiichiTableModel", "meldKind", "[I", true)
  | 13 => ("RiichiTableModel", "meldType", "[I", true)
  | 14 => ("RiichiTableModel", "rivers", "[I", true)
  | 15 => ("RiichiTableModel", "river", "[I", true)
  | 16 => ("RiichiTableModel", "quads", "I", false)
  | 17 => ("RiichiTableModel", "called", "Z", false)
  | 18 => ("RiichiTableModel", "drawn", "I", false)
  | 19 => ("RiichiTableModel", "replaced", "Z", false)
  | 20 => ("RiichiTableModel", "riichi", "[I", true)
  | 21 => ("RiichiTableModel", "early", "[Z", true)
  | 22 => ("RiichiTableModel", "missed", "[Z", true)
  | 23 => ("RiichiTableModel", "owes", "I", false)
  | 24 => ("RiichiTableModel", "claimed", "I", false)
  | 25 => ("RiichiTableModel", "robbing", "Z", false)
  | 26 => ("RiichiTableModel", "claims", "Z", false)
  | 27 => ("RiichiTableModel", "open", "[I", true)
  | 28 => ("RiichiTableModel", "answer", "[I", true)
  | 29 => ("RiichiTableModel", "named", "[I", true)
  | 30 => ("RiichiTableModel", "value", "[I", true)
  | 31 => ("RiichiTableModel", "valueYaku", "[J", true)
  | 32 => ("RiichiTableModel", "judged", "I", false)
  | 33 => ("RiichiTableModel", "last", "I", false)
  | 34 => ("RiichiTableModel", "self", "Z", false)
  | 35 => ("RiichiTableModel", "robs", "Z", false)
  | 36 => ("RiichiTableModel", "w", "[I", true)
  | 37 => ("RiichiTableModel", "all", "[I", true)
  | 38 => ("RiichiTableModel", "rest", "[I", true)
  | 39 => ("RiichiTableModel", "sets", "I", false)
  | 40 => ("RiichiTableModel", "own", "I", false)
  | 41 => ("RiichiTableModel", "setKind", "[I", true)
  | 42 => ("RiichiTableModel", "setType", "[I", true)
  | 43 => ("RiichiTableModel", "setOpen", "[Z", true)
  | 44 => ("RiichiTableModel", "pair", "I", false)
  | 45 => ("RiichiTableModel", "at", "I", false)
  | 46 => ("RiichiTableModel", "bestHan", "I", false)
  | 47 => ("RiichiTableModel", "bestFu", "I", false)
  | 48 => ("RiichiTableModel", "bestBase", "I", false)
  | _ => ("RiichiTableModel", "bestYaku", "J", false)
def zq_y_Model : Nat → FieldType := fun k => match k with
  | 0 => .array (.int)
  | 1 => .int
  | 2 => .int
  | 3 => .int
  | 4 => .int
  | 5 => .int
  | 6 => .int
  | 7 => .int
  | 8 => .int
  | 9 => .array (.int)
  | 10 => .array (.int)
  | 11 => .array (.int)
  | 12 => .array (.int)
  | 13 => .array (.int)
  | 14 => .array (.int)
  | 15 => .array (.int)
  | 16 => .int
  | 17 => .boolean
  | 18 => .int
  | 19 => .boolean
  | 20 => .array (.int)
  | 21 => .array (.boolean)
  | 22 => .array (.boolean)
  | 23 => .int
  | 24 => .int
  | 25 => .boolean
  | 26 => .boolean
  | 27 => .array (.int)
  | 28 => .array (.int)
  | 29 => .array (.int)
  | 30 => .array (.int)
  | 31 => .array (.long)
  | 32 => .int
  | 33 => .int
  | 34 => .boolean
  | 35 => .boolean
  | 36 => .array (.int)
  | 37 => .array (.int)
  | 38 => .array (.int)
  | 39 => .int
  | 40 => .int
  | 41 => .array (.int)
  | 42 => .array (.int)
  | 43 => .array (.boolean)
  | 44 => .int
  | 45 => .int
  | 46 => .int
  | 47 => .int
  | 48 => .int
  | _ => .long
theorem zq_n_Model : ∀ a, a < 50 → ∀ b, b < 50 → a ≠ b → (zq_T_Model a).2.1 ≠ (zq_T_Model b).2.1 := by decide +kernel
theorem zq_ok_Model : ∀ k, k < 50 → parseFieldDescriptor (zq_T_Model k).2.2.1 = some (zq_y_Model k) := by decide +kernel
theorem zq_i_Model : ∀ w ∈ u_ws "RiichiTableModel" zq_T_Model 50, w ∈ zq_ws := fun w h => zq_in ((by decide +kernel : ∀ w ∈ u_ws "RiichiTableModel" zq_T_Model 50, w ∈ lw_tbl) w h) ((by decide +kernel : ∀ w ∈ u_ws "RiichiTableModel" zq_T_Model 50, goodWord w = true) w h)
def zq_cl : List vw_C := [("RiichiTable", zq_T_Table, 14), ("RiichiTable$Wall", zq_T_Wall, 4), ("RiichiTable$Player", zq_T_Player, 14), ("RiichiTable$Worth", zq_T_Worth, 5), ("RiichiTable$Judge", zq_T_Judge, 15), ("RiichiTable$Splitter", zq_T_Splitter, 6), ("RiichiTableModel", zq_T_Model, 50)]
def zq_ft : Nat → Nat → FieldType
  | 0 => zq_y_Table
  | 1 => zq_y_Wall
  | 2 => zq_y_Player
  | 3 => zq_y_Worth
  | 4 => zq_y_Judge
  | 5 => zq_y_Splitter
  | _ => zq_y_Model
